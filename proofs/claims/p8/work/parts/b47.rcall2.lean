/-! ===== the reference's act: call ===== -/
section MJB47
variable {T : TT} {D N b k n m wm cm i i0 c0 m1 d1 o1 : Nat} {t : PT} {E : EV} {r : Row} {j : JS} {H : HEAP} {f : FRM} {fs : List FRM} {st : List Int32} {sc : SCL} {s s' : mjSt3}
theorem L240_S (R : mjR) (n a : Nat) (x y z w : Int32) (hp : mjH) : L_240_148 R (n + 1) a x y z w hp = b_240_148 R (L_240_148 R n) a x y z w hp := rfl
def oV5 (lo : Nat) : mjSt3 → mjSt3 → Prop := offG (fun h j => h = 175 ∧ lo ≤ j ∧ j < lo + 16) (fun _ _ => False)
theorem lq_240 (R : mjR) (hc : c0 < 40) (n6 : n ≤ 6) (hn : n + 1 ≤ st.length) (hl : st.length < 8000) {l4 : Int32} : ∀ (r i m : Nat) (s : mjSt3), i + r = 16 → r < m → STr s st → s.1 97 118 = nI st.length → (∀ x, x < i → s.1 175 (16 * c0 + x) = if x < n then st[n - 1 - x]?.getD 0 else 0) → ∃ s', L_240_148 R m 97 (nI n) l4 (nI c0) (nI i) (mjW0 s) = gI (mjW0 s') 97 12 118 (fun v1 => pI (mjW0 s') 97 12 118 (v1 - (nI n + (1 : Int32))) (fun hp2 => gR hp2 97 12 40 (fun v3 => aI hp2 v3 l4 (fun v4 => pI hp2 97 12 119 v4 (fun hp5 => some (none, hp5)))))) ∧ oV5 (16 * c0) s s' ∧ ∀ x, x < 16 → s'.1 175 (16 * c0 + x) = if x < n then st[n - 1 - x]?.getD 0 else 0
  | r, i, 0, s, e, hr, S, h8, w => by omega
  | 0, i, m + 1, s, e, hr, S, h8, w => by
    refine ⟨s, ?_, offG.rf, fun x hx => w x (by omega)⟩
    rw [L240_S]
    unfold b_240_148
    rw [if_pos (show (16 : Int32) ≤ nI i from nI_le (a := 16) (by omega) (by omega))]
  | r + 1, i, m + 1, s, e, hr, S, h8, w => by
    have i16 : i < 16 := by omega
    have ei : (16 : Int32) * nI c0 + nI i = nI (16 * c0 + i) := by rw [show (16 : Int32) = nI 16 from rfl, nI_mul, nI_add]
    have go : ∀ x : Int32, x = (if i < n then st[n - 1 - i]?.getD 0 else 0) → L_240_148 R (m + 1) 97 (nI n) l4 (nI c0) (nI i) (mjW0 s) = L_240_148 R m 97 (nI n) l4 (nI c0) (nI (i + 1)) (mjW0 (uI s 175 (upd (s.1 175) (16 * c0 + i) x))) → ∃ s', L_240_148 R (m + 1) 97 (nI n) l4 (nI c0) (nI i) (mjW0 s) = gI (mjW0 s') 97 12 118 (fun v1 => pI (mjW0 s') 97 12 118 (v1 - (nI n + (1 : Int32))) (fun hp2 => gR hp2 97 12 40 (fun v3 => aI hp2 v3 l4 (fun v4 => pI hp2 97 12 119 v4 (fun hp5 => some (none, hp5)))))) ∧ oV5 (16 * c0) s s' ∧ ∀ x, x < 16 → s'.1 175 (16 * c0 + x) = if x < n then st[n - 1 - x]?.getD 0 else 0 := by
      intro x hx pre
      have r1 : ∀ h, ¬ h = 175 → (uI s 175 (upd (s.1 175) (16 * c0 + i) x)).1 h = s.1 h := fun h e => uI_ne _ _ _ _ e
      obtain ⟨s', b1, b2', b3⟩ := lq_240 R hc n6 hn hl (l4 := l4) r (i + 1) m (uI s 175 (upd (s.1 175) (16 * c0 + i) x)) (by omega) (by omega) (STr.low st (fun y _ => by rw [r1 176 (by decide)]) S) (by rw [r1 97 (by decide)]; exact h8) (fun y hy => by
        rw [uI_same, upd_g]
        by_cases e' : y = i
        · rw [if_pos (by omega), hx, e']
        · rw [if_neg (by omega)]; exact w y (by omega))
      exact ⟨s', pre.trans b1, offG.tr (show oV5 (16 * c0) s _ from offG.w ⟨rfl, by omega, by omega⟩) b2', b3⟩
    by_cases g : i < n
    · refine go _ rfl ?_
      have at' := STr.at st (n - 1 - i) S (by omega)
      have es : nI st.length - nI n + nI i = nI (st.length - 1 - (n - 1 - i)) := by
        have e1 : st.length = (st.length - n) + n := by omega
        rw [show nI st.length = nI (st.length - n) + nI n by rw [nI_add, ← e1], Int32.add_sub_cancel, nI_add, show st.length - n + i = st.length - 1 - (n - 1 - i) by omega]
      rw [if_pos g, L240_S]
      unfold b_240_148 b_240_191
      rw [if_neg (show ¬ (16 : Int32) ≤ nI i from nI_ge (b := 16) i16 (by decide)), xg_97_115, if_neg (nI_ge g (by omega)), xg_97_117, xg_97_118, h8, es, wa_176 (by omega), at', ei, ws_175 (by omega), nI_1]
    · refine go 0 (by rw [if_neg g]) ?_
      rw [L240_S]
      unfold b_240_148 b_240_191
      rw [if_neg (show ¬ (16 : Int32) ≤ nI i from nI_ge (b := 16) i16 (by decide)), xg_97_115, if_pos (nI_le (by omega) (by omega)), ei, ws_175 (by omega), nI_1]
theorem oV5.Rn {lo : Nat} (o : oV5 lo s s') : oRn s s' := offG.mono o (fun h j x => by unfold chRn; omega) (fun _ _ x => x)
theorem ac_13 (Ac : ACY T N t.1) (M : MRn T t b wm cm (H, f :: fs, k, st, sc) s) (W : RwJ E b i r j s) (o : r.1 = 13) (hl : st.length < 8000) (Mt : MTr T t.1 b s) (hH : HOK T t.1 H) (hw : bsH T t.1 H H.1 ≤ 4000) (hfl : fs.length < 40) (cm4 : cm ≤ 40) (hcl : (f :: fs).length ≤ cm) (ms4 : sc.1 ≤ 100) (n6 : n ≤ 6) (hn : n + 1 ≤ st.length) (ha : r.2.2.1 = nI n) (hp : (j.2.1.headD (0, 0)).1 = m1) (hk : nkM T t.1 m1 = r.2.2.2.2) (hv : st[n]?.getD 0 = 0 ∨ ∃ o1 d1, st[n]?.getD 0 = nI o1 ∧ 1 ≤ o1 ∧ o1 ≤ H.1 ∧ memT T t.1 (H.2 o1).1 (nkM T t.1 m1) true = some d1 ∧ d1 < nMem t.1 ∧ s.1 129 (400 * b + d1) = nI (i0T t d1)) : gAct T t b wm cm (aStep T t.1 E j i0 wm cm r (H, f :: fs, k, st, sc)) s (mjF (D + 4) 231 [.ref 97, .int (nI (5000 * b + i))] (mjW0 s)) := by
  have hmj := mjN_v
  have hi := W.2.1
  have hb := W.2.2
  have m384 := Mt.2.2.1
  obtain ⟨h9, h8, hS⟩ := M.2.2.2 f fs rfl
  have h9' : s.1 97 119 = nI (i0T t f.1 + k) := h9
  have h8' : s.1 97 118 = nI st.length := h8
  have hS' : STr s st := hS
  have e145 : s.1 145 (5000 * b + i) = nI n := by
    rw [W.1.2.2.1, ← ha]
    exact nA_9 (by rw [o]; decide)
  have e147 : s.2.1 147 (5000 * b + i) = r.2.2.2.2 := W.1.2.2.2.2
  have en : nN r.2.2.1 = n := by rw [ha, nN_nI (by omega)]
  have s104 : s.1 97 104 = nI cm := M.1.2.2.2.1.2
  have s105 : s.1 97 105 = nI sc.1 := M.1.2.1.2.1
  have at' := STr.at st n hS' (by omega)
  have es : nI st.length - (1 : Int32) - nI n = nI (st.length - 1 - n) := by
    have e1 : st.length = (st.length - 1 - n) + n + 1 := by omega
    rw [show nI st.length = nI ((st.length - 1 - n) + n + 1) by rw [← e1], nI_pred, ← nI_add, Int32.add_sub_cancel]
  obtain ⟨w, hw'⟩ : ∃ w, w = st[n]?.getD 0 := ⟨_, rfl⟩
  have pre : mjF (D + 4) 231 [.ref 97, .int (nI (5000 * b + i))] (mjW0 s) = bN (mjF (D + 3) 240 [.ref 97, .int (nI (5000 * b + i))] (mjW0 s)) (fun hp54 => some (none, hp54)) := by
    rw [e_231]
    unfold f_231 b_231_0
    rw [xg_97_116, M.c16, xg_97_54, wa_143 (by omega), W.1.1, o, if_neg (by decide), if_neg (by decide), if_neg (by decide), if_neg (by decide), if_neg (by decide), if_neg (by decide), if_neg (by decide), if_neg (by decide), if_neg (by decide), if_neg (by decide), if_neg (by decide), if_neg (by decide), if_pos rfl, xV_97]
  have fail : ∀ q : Int32, gAct T t b wm cm (aFail (H, f :: fs, k, st, sc) q r.2.1) s (bN (gR (mjW0 s) 97 12 55 (fun v34 => aI (mjW0 s) v34 (nI (5000 * b + i)) (fun v35 => rV (mjW0 s) 97 12 (bN (mjF (D + 2) 234 [.ref 97, .int q, .int v35] (mjW0 s)) (fun hp36 => some (none, hp36)))))) (fun hp54 => some (none, hp54))) := fun q => by
    obtain ⟨s3, p1, p2, p3⟩ := x_234 (d := D + 1) M q r.2.1
    exact ⟨s3, by rw [xg_97_55, wa_144 (by omega), W.1.2.1, xV_97, p1, bN_s, bN_s], p2, p3⟩
  have u240 : mjF (D + 3) 240 [.ref 97, .int (nI (5000 * b + i))] (mjW0 s) = f_240 (mjF (D + 2)) 97 (nI (5000 * b + i)) (mjW0 s) := rfl
  rw [pre, as_13 o, en, hp, aCall_eq, ← hw']
  by_cases w0 : w = 0
  · rw [if_pos w0, u240]
    unfold f_240 b_240_0
    rw [xg_97_56, wa_145 (by omega), e145, xg_97_117, xg_97_118, h8', es, wa_176 (by omega), at', ← hw', if_pos w0]
    exact fail 1
  · rw [if_neg w0]
    obtain ⟨o1, d1, q1, q2, q3, q4, q5, q6⟩ := hv.resolve_left (by rw [← hw']; exact w0)
    rw [← hw'] at q1
    have b3 := bs_3 Ac.1 H H.1 (fun x x1 x2 => (hH x x1 x2).1)
    obtain ⟨p1, p2, _, _⟩ := M.2.1 o1 q2 q3
    have cl := (hH o1 q2 q3).1
    have l16 := Ac.1.1
    have fl1 : (f :: fs).length = fs.length + 1 := rfl
    by_cases lc : (f :: fs).length = cm
    · rw [if_pos lc, u240]
      unfold f_240 b_240_0
      rw [xg_97_56, wa_145 (by omega), e145, xg_97_117, xg_97_118, h8', es, wa_176 (by omega), at', ← hw', if_neg w0, xg_97_116, M.c16, xg_97_104, s104, if_pos (show nI (fs.length + 1) = nI cm by rw [← lc]; rfl)]
      exact fail 5
    · rw [if_neg lc]
      have nw : nN w = o1 := by rw [q1, nN_nI (by omega)]
      rw [nw, q4]
      dsimp only
      have ne : ¬ nI (fs.length + 1) = nI cm := fun e => lc (by
        have := (nI_eq (by omega) (by omega)).mp e
        omega)
      have c4 : fs.length + 1 < 40 := by omega
      obtain ⟨mx, hmx⟩ : ∃ mx, mx = (if sc.1 < fs.length + 1 + 1 then fs.length + 1 + 1 else sc.1) := ⟨_, rfl⟩
      have emx : (if nI (fs.length + 1 + 1) ≤ nI sc.1 then nI sc.1 else nI (fs.length + 1 + 1)) = nI mx := by
        rw [hmx]
        by_cases q : sc.1 < fs.length + 1 + 1
        · rw [if_pos q, if_neg (nI_ge q (by omega))]
        · rw [if_neg q, if_pos (nI_le (by omega) (by omega))]
      obtain ⟨z1, g1⟩ : ∃ y, y = uI s 97 (upd (s.1 97) 116 (nI (fs.length + 1 + 1))) := ⟨_, rfl⟩
      obtain ⟨z2, g2⟩ : ∃ y, y = uI z1 97 (upd (z1.1 97) 105 (nI mx)) := ⟨_, rfl⟩
      obtain ⟨z3, g3⟩ : ∃ y, y = uI z2 171 (upd (z2.1 171) (fs.length + 1) (mR b (some d1))) := ⟨_, rfl⟩
      obtain ⟨z4, g4⟩ : ∃ y, y = uI z3 172 (upd (z3.1 172) (fs.length + 1) (nI o1)) := ⟨_, rfl⟩
      obtain ⟨z5, g5⟩ : ∃ y, y = uI z4 173 (upd (z4.1 173) (fs.length + 1) (-1)) := ⟨_, rfl⟩
      obtain ⟨z6, g6⟩ : ∃ y, y = uI z5 174 (upd (z5.1 174) (fs.length + 1) (nI (i0T t f.1 + k))) := ⟨_, rfl⟩
      have y1 : ∀ h, ¬ h = 97 → z2.1 h = s.1 h := fun h e => by rw [g2, uI_ne _ _ _ _ e, g1, uI_ne _ _ _ _ e]
      have y97 : ∀ x, z2.1 97 x = if x = 105 then nI mx else if x = 116 then nI (fs.length + 1 + 1) else s.1 97 x := fun x => by rw [g2, uI_same, upd_g, g1, uI_same, upd_g]
      have y6 : ∀ h, ¬ (171 ≤ h ∧ h ≤ 174) → z6.1 h = z2.1 h := fun h e => by rw [g6, uI_ne _ _ _ _ (by omega), g5, uI_ne _ _ _ _ (by omega), g4, uI_ne _ _ _ _ (by omega), g3, uI_ne _ _ _ _ (by omega)]
      have z197 : ∀ x, z1.1 97 x = if x = 116 then nI (fs.length + 1 + 1) else s.1 97 x := fun x => by rw [g1, uI_same, upd_g]
      have x171 : ∀ x, z6.1 171 x = if x = fs.length + 1 then mR b (some d1) else s.1 171 x := fun x => by rw [g6, uI_ne _ _ _ _ (by decide), g5, uI_ne _ _ _ _ (by decide), g4, uI_ne _ _ _ _ (by decide), g3, uI_same, upd_g, y1 171 (by decide)]
      have x172 : ∀ x, z6.1 172 x = if x = fs.length + 1 then nI o1 else s.1 172 x := fun x => by rw [g6, uI_ne _ _ _ _ (by decide), g5, uI_ne _ _ _ _ (by decide), g4, uI_same, upd_g, g3, uI_ne _ _ _ _ (by decide), y1 172 (by decide)]
      have x173 : ∀ x, z6.1 173 x = if x = fs.length + 1 then -1 else s.1 173 x := fun x => by rw [g6, uI_ne _ _ _ _ (by decide), g5, uI_same, upd_g, g4, uI_ne _ _ _ _ (by decide), g3, uI_ne _ _ _ _ (by decide), y1 173 (by decide)]
      have x174 : ∀ x, z6.1 174 x = if x = fs.length + 1 then nI (i0T t f.1 + k) else s.1 174 x := fun x => by rw [g6, uI_same, upd_g, g5, uI_ne _ _ _ _ (by decide), g4, uI_ne _ _ _ _ (by decide), g3, uI_ne _ _ _ _ (by decide), y1 174 (by decide)]
      have x97 : z6.1 97 = z2.1 97 := y6 97 (by decide)
      have x176 : z6.1 176 = s.1 176 := by rw [y6 176 (by decide), y1 176 (by decide)]
      obtain ⟨s7, c1, c2, c3⟩ := lq_240 (c0 := fs.length + 1) (l4 := mR b (some d1)) (mjF (D + 2)) c4 n6 hn hl 16 0 mjN z6 (by omega) (by omega) (STr.low st (fun y _ => by rw [x176]) hS') (by rw [x97, y97, if_neg (by decide), if_neg (by decide)]; exact h8') (fun x hx => by omega)
      have k7 : ∀ h, ¬ h = 175 → s7.1 h = z6.1 h := fun h e => funext fun y => c2.1 h y (by omega)
      obtain ⟨z8, g8⟩ : ∃ y, y = uI s7 97 (upd (s7.1 97) 118 (nI (st.length - (n + 1)))) := ⟨_, rfl⟩
      obtain ⟨z9, g9⟩ : ∃ y, y = uI z8 97 (upd (z8.1 97) 119 (nI (i0T t d1))) := ⟨_, rfl⟩
      have k9 : ∀ h, ¬ h = 97 → z9.1 h = s7.1 h := fun h e => by rw [g9, uI_ne _ _ _ _ e, g8, uI_ne _ _ _ _ e]
      have w97 : ∀ x, z9.1 97 x = if x = 119 then nI (i0T t d1) else if x = 118 then nI (st.length - (n + 1)) else if x = 105 then nI mx else if x = 116 then nI (fs.length + 1 + 1) else s.1 97 x := fun x => by rw [g9, uI_same, upd_g, g8, uI_same, upd_g, k7 97 (by decide), x97, y97]
      have nn : ∀ x, ¬ (x = 119 ∨ x = 118 ∨ x = 105 ∨ x = 116) → z9.1 97 x = s.1 97 x := fun x hx => by rw [w97, if_neg (by omega), if_neg (by omega), if_neg (by omega), if_neg (by omega)]
      have kk : ∀ h, ¬ (h = 97 ∨ (171 ≤ h ∧ h ≤ 175)) → z9.1 h = s.1 h := fun h e => by rw [k9 h (by omega), k7 h (by omega), y6 h (by omega), y1 h (by omega)]
      have k64 : ∀ h, 171 ≤ h ∧ h ≤ 174 → z9.1 h = z6.1 h := fun h e => by rw [k9 h (by omega), k7 h (by omega)]
      refine ⟨z9, ?_, ?_, ?_⟩
      · rw [u240]
        unfold f_240 b_240_0
        have sb : nI st.length - (nI n + (1 : Int32)) = nI (st.length - (n + 1)) := by
          have e1 : st.length = (st.length - (n + 1)) + (n + 1) := by omega
          rw [nI_1, show nI st.length = nI (st.length - (n + 1)) + nI (n + 1) by rw [nI_add, ← e1], Int32.add_sub_cancel]
        rw [xg_97_56, wa_145 (by omega), e145, xg_97_117, xg_97_118, h8', es, wa_176 (by omega), at', ← hw', if_neg w0, xg_97_116, M.c16, xg_97_104, s104, if_neg ne, xg_97_109, q1, wa_169 (by omega), p1, xg_97_58, wa_147 (by omega), e147, xV_97, x_241 (d := D) Ac hb Mt cl, bI_s, ← hk, q4, xg_97_116, M.c16, xg_97_116, M.c16, nI_1, xp_97_116, ← g1, xg_97_105, z197, if_neg (by decide), s105, xg_97_116, z197, if_pos rfl, q_max, bI_s, emx, xp_97_105, ← g2, xg_97_111, ws_171 c4, ← g3, xg_97_112, ws_172 c4, ← g4, xg_97_113, ws_173 c4, ← g5, xg_97_114, xg_97_119, show z5.1 97 119 = nI (i0T t f.1 + k) by rw [g5, uI_ne _ _ _ _ (by decide), g4, uI_ne _ _ _ _ (by decide), g3, uI_ne _ _ _ _ (by decide), y97, if_neg (by decide), if_neg (by decide)]; exact h9', ws_174 c4, ← g6, show (0 : Int32) = nI 0 from rfl, c1, xg_97_118, k7 97 (by decide), x97, y97, if_neg (by decide), if_neg (by decide), h8', sb]
        have e8 : upd (z2.1 97) 118 (nI (st.length - (n + 1))) = upd (s7.1 97) 118 (nI (st.length - (n + 1))) := by rw [k7 97 (by decide), x97]
        rw [xp_97_118, ← g8, xg_97_40, show mR b (some d1) = nI (400 * b + d1) from rfl, wa_129 (by omega), show z8.1 129 (400 * b + d1) = nI (i0T t d1) by rw [g8, uI_ne _ _ _ _ (by decide), k7 129 (by decide), y6 129 (by decide), y1 129 (by decide)]; exact q6, xp_97_119, ← g9, bN_s]
      · exact offG.tr (b := z1) (by rw [g1]; exact oRn.wr (by unfold chRn; omega)) (offG.tr (b := z2) (by rw [g2]; exact oRn.wr (by unfold chRn; omega)) (offG.tr (b := z3) (by rw [g3]; exact oRn.wr (by unfold chRn; omega)) (offG.tr (b := z4) (by rw [g4]; exact oRn.wr (by unfold chRn; omega)) (offG.tr (b := z5) (by rw [g5]; exact oRn.wr (by unfold chRn; omega)) (offG.tr (b := z6) (by rw [g6]; exact oRn.wr (by unfold chRn; omega)) (offG.tr c2.Rn (offG.tr (b := z8) (by rw [g8]; exact oRn.wr (by unfold chRn; omega)) (by rw [g9]; exact oRn.wr (by unfold chRn; omega)))))))))
      · obtain ⟨⟨⟨b1, b2', b3', b4⟩, ⟨b5, b6, b7⟩, ⟨b8, b9, b10⟩, ⟨b11, b12⟩, b13⟩, hHp, hF, hT⟩ := M
        have d384 : ¬ d1 = 384 := by omega
        have dl : (st.drop (n + 1)).length = st.length - (n + 1) := List.length_drop ..
        refine ⟨⟨⟨by rw [nn 96 (by omega)]; exact b1, by rw [nn 97 (by omega)]; exact b2', by rw [nn 98 (by omega)]; exact b3', by rw [nn 99 (by omega)]; exact b4⟩, ⟨by rw [nn 100 (by omega)]; exact b5, ?_, by rw [nn 106 (by omega)]; exact b7⟩, ⟨by rw [nn 102 (by omega)]; exact b8, by rw [nn 103 (by omega)]; exact b9, by rw [w97, if_neg (by decide), if_neg (by decide), if_neg (by decide), if_pos rfl]; rfl⟩, ⟨by rw [nn 101 (by omega)]; exact b11, by rw [nn 104 (by omega)]; exact b12⟩, fun x h1 h2 => by rw [kk 167 (by omega)]; exact b13 x h1 h2⟩, hHp.keep (fun x hx => kk x (by omega)), ⟨⟨?_, ?_, ?_, fun v hv => ?_, fun g gs hg => ?_⟩, ?_⟩, fun g gs hg => ?_⟩
        · show z9.1 97 105 = nI (if sc.1 < (f :: fs).length + 1 then (f :: fs).length + 1 else sc.1)
          rw [w97, if_neg (by decide), if_neg (by decide), if_pos rfl, hmx]
          rfl
        · show z9.1 171 (fs.length + 1) = mR b (moM d1)
          rw [k64 171 (by omega), x171, if_pos rfl, show moM d1 = some d1 from if_neg d384]
        · show z9.1 172 (fs.length + 1) = nI o1
          rw [k64 172 (by omega), x172, if_pos rfl]
        · show z9.1 173 (fs.length + 1) = -1
          rw [k64 173 (by omega), x173, if_pos rfl]
        · show z9.1 175 (16 * (fs.length + 1) + v) = _
          rw [k9 175 (by decide)]
          exact c3 v hv
        · have hg' : f = g := (List.cons.inj hg).1
          show z9.1 174 (fs.length + 1) = nI (i0T t g.1 + k)
          rw [k64 174 (by omega), x174, if_pos rfl, ← hg']
        · refine FRr.low (n := fs.length + 1) (fun h x h1 h2 => ?_) (fun x hx => ?_) (f :: fs) (Nat.le_refl _) hF
          · rw [k64 h h1]
            have h1' : h = 171 ∨ h = 172 ∨ h = 173 ∨ h = 174 := by omega
            rcases h1' with e | e | e | e
            · rw [e, x171, if_neg (by omega)]
            · rw [e, x172, if_neg (by omega)]
            · rw [e, x173, if_neg (by omega)]
            · rw [e, x174, if_neg (by omega)]
          · rw [k9 175 (by decide), c2.1 175 _ (by omega), y6 175 (by decide), y1 175 (by decide)]
        · have hg' : _ = g := (List.cons.inj hg).1
          rw [← hg']
          refine ⟨by rw [w97, if_pos rfl]; rfl, ?_, STr.low _ (fun y _ => by rw [kk 176 (by omega)]) (STr.drop st (n + 1) hS')⟩
          show z9.1 97 118 = nI (st.drop (n + 1)).length
          rw [w97, if_neg (by decide), if_pos rfl, dl]
end MJB47
