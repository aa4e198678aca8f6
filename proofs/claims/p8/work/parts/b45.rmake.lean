/-! ===== the reference's act: an OBJECT is made ===== -/
def oH8 (lo hi : Nat) : mjSt3 → mjSt3 → Prop := offG (fun h j => h = 168 ∧ lo ≤ j ∧ j < hi) (fun _ _ => False)
section MJB45
variable {T : TT} {d N b k n m kx kk wm cm i i0 c F0 o1 : Nat} {L : List CD} {t : PT} {E : EV} {r : Row} {j : JS} {H : HEAP} {f : FRM} {fs : List FRM} {st : List Int32} {sc : SCL} {s s' : mjSt3} {w : Int32} {ow : Nat → Nat}
theorem L233_99 (R : mjR) (n a : Nat) (x y z w : Int32) (hp : mjH) : L_233_99 R (n + 1) a x y z w hp = b_233_99 R (L_233_99 R n) a x y z w hp := rfl
theorem L233_141 (R : mjR) (n a : Nat) (x y z w : Int32) (hp : mjH) : L_233_141 R (n + 1) a x y z w hp = b_233_141 R (L_233_141 R n) a x y z w hp := rfl
theorem lq_233a (R : mjR) (hb : b ≤ 1) (hc : c < 16) (nm5 : nmL L c ≤ 5) (hF : F0 + nmL L c ≤ 4000) (ho : o1 < 1400) {l4 : Int32} : ∀ (r i m : Nat) (s : mjSt3), i + r = nmL L c → r < m → s.1 104 (16 * b + c) = nI (nmL L c) → s.1 170 o1 = nI F0 → (∀ x, x < nmL L c → s.1 185 x = nI (ow x)) → (∀ x, x < i → s.1 168 (F0 + x) = nI (ow x)) → ∃ s', L_233_99 R m 97 (nI (16 * b + c)) l4 (nI o1) (nI i) (mjW0 s) = L_233_141 R mjN 97 (nI (16 * b + c)) l4 (nI o1) (nI 0) (mjW0 s') ∧ oH8 F0 (F0 + nmL L c) s s' ∧ ∀ x, x < nmL L c → s'.1 168 (F0 + x) = nI (ow x)
  | r, i, 0, s, e, hr, h4, h0, h5, w => by omega
  | 0, i, m + 1, s, e, hr, h4, h0, h5, w => by
    refine ⟨s, ?_, offG.rf, fun x hx => w x (by omega)⟩
    rw [L233_99]
    unfold b_233_99
    rw [xg_97_15, wa_104 (by omega), h4, if_pos (nI_le (by omega) (by omega))]
    rfl
  | r + 1, i, m + 1, s, e, hr, h4, h0, h5, w => by
    obtain ⟨z, hz⟩ : ∃ z, z = uI s 168 (upd (s.1 168) (F0 + i) (nI (ow i))) := ⟨_, rfl⟩
    have r1 : ∀ h, ¬ h = 168 → z.1 h = s.1 h := fun h e => by rw [hz]; exact uI_ne _ _ _ _ e
    obtain ⟨s', b1, b2', b3⟩ := lq_233a R hb hc nm5 hF ho (l4 := l4) r (i + 1) m z (by omega) (by omega) (by rw [r1 104 (by decide)]; exact h4) (by rw [r1 170 (by decide)]; exact h0) (fun x hx => by rw [r1 185 (by decide)]; exact h5 x hx) (fun x hx => by
      rw [hz, uI_same, upd_g]
      by_cases e' : x = i
      · rw [if_pos (by omega), e']
      · rw [if_neg (by omega)]; exact w x (by omega))
    refine ⟨s', ?_, offG.tr (show oH8 F0 (F0 + nmL L c) s z by rw [hz]; exact offG.w ⟨rfl, by omega, by omega⟩) b2', b3⟩
    rw [← b1, L233_99]
    unfold b_233_99
    rw [xg_97_15, wa_104 (by omega), h4, if_neg (nI_ge (show i < nmL L c by omega) (by omega)), xg_97_108, xg_97_110, wa_170 ho, h0, xg_97_134, wa_185 (by omega), h5 i (by omega), nI_add, ws_168 (by omega), ← hz, nI_1]
theorem lq_233b (R : mjR) (hb : b ≤ 1) (hc : c < 16) (nm5 : nmL L c ≤ 5) (hF : F0 + nmL L c + fldT T L c ≤ 4000) (ho : o1 < 1400) {l4 : Int32} : ∀ (r i m : Nat) (s : mjSt3), i + r = fldT T L c → r < m → s.1 104 (16 * b + c) = nI (nmL L c) → s.1 109 (16 * b + c) = nI (fldT T L c) → s.1 170 o1 = nI F0 → (∀ x, x < i → s.1 168 (F0 + nmL L c + x) = 0) → ∃ s', L_233_141 R m 97 (nI (16 * b + c)) l4 (nI o1) (nI i) (mjW0 s) = gI (mjW0 s') 97 12 102 (fun v3 => pI (mjW0 s') 97 12 102 (v3 + l4) (fun hp4 => pI hp4 97 12 103 (nI o1) (fun hp5 => rV hp5 97 12 (bN (R 232 [.ref 97, .int (nI o1)] hp5) (fun hp6 => some (none, hp6)))))) ∧ oH8 (F0 + nmL L c) (F0 + nmL L c + fldT T L c) s s' ∧ ∀ x, x < fldT T L c → s'.1 168 (F0 + nmL L c + x) = 0
  | r, i, 0, s, e, hr, h4, h9, h0, w => by omega
  | 0, i, m + 1, s, e, hr, h4, h9, h0, w => by
    refine ⟨s, ?_, offG.rf, fun x hx => w x (by omega)⟩
    rw [L233_141]
    unfold b_233_141
    rw [xg_97_20, wa_109 (by omega), h9, if_pos (nI_le (by omega) (by omega))]
  | r + 1, i, m + 1, s, e, hr, h4, h9, h0, w => by
    obtain ⟨z, hz⟩ : ∃ z, z = uI s 168 (upd (s.1 168) (F0 + nmL L c + i) 0) := ⟨_, rfl⟩
    have r1 : ∀ h, ¬ h = 168 → z.1 h = s.1 h := fun h e => by rw [hz]; exact uI_ne _ _ _ _ e
    obtain ⟨s', b1, b2', b3⟩ := lq_233b R hb hc nm5 hF ho (l4 := l4) r (i + 1) m z (by omega) (by omega) (by rw [r1 104 (by decide)]; exact h4) (by rw [r1 109 (by decide)]; exact h9) (by rw [r1 170 (by decide)]; exact h0) (fun x hx => by
      rw [hz, uI_same, upd_g]
      by_cases e' : x = i
      · rw [if_pos (by omega)]
      · rw [if_neg (by omega)]; exact w x (by omega))
    refine ⟨s', ?_, offG.tr (show oH8 (F0 + nmL L c) (F0 + nmL L c + fldT T L c) s z by rw [hz]; exact offG.w ⟨rfl, by omega, by omega⟩) b2', b3⟩
    rw [← b1, L233_141]
    unfold b_233_141
    rw [xg_97_20, wa_109 (by omega), h9, if_neg (nI_ge (show i < fldT T L c by omega) (by omega)), xg_97_108, xg_97_110, wa_170 ho, h0, xg_97_15, wa_104 (by omega), h4, nI_add, nI_add, ws_168 (by omega), ← hz, nI_1]
theorem oH8.Rn {lo hi : Nat} (o : oH8 lo hi s s') : oRn s s' := offG.mono o (fun h j x => by unfold chRn; omega) (fun _ _ x => x)
theorem ac_7 (Ac : ACY T N t.1) (M : MRn T t b wm cm (H, f :: fs, k, st, sc) s) (W : RwJ E b i r j s) (o : r.1 = 7) (hl : st.length < 8000) (P : PGn T t b s) (hfd : ∀ c, c < t.1.length → s.1 109 (16 * b + c) = nI (fldT T t.1 c)) (hH : HOK T t.1 H) (hw : bsH T t.1 H H.1 ≤ wm) (wm4 : wm ≤ 4000) (hfl : fs.length < 40) (m384 : nMem t.1 ≤ 384) (h384 : ∀ c, fldT T t.1 c ≤ 384) (hkd : kdE E r.2.2.1 = some kk) (hx : r.2.2.1 = nI kx) (K : NWk T t b H f kx kk s) : gAct T t b wm cm (aStep T t.1 E j i0 wm cm r (H, f :: fs, k, st, sc)) s (mjF (d + 6) 231 [.ref 97, .int (nI (5000 * b + i))] (mjW0 s)) := by
  have hmj := mjN_v
  have hn := Ac.1
  have l16 := hn.1
  have hi := W.2.1
  have hb := W.2.2
  obtain ⟨F, hC, vk, hk, h8, h2, h9, h5, hnm⟩ := K
  have ck := vk.cl hn
  have n5 := (vK.n5 hn ck)
  have e145 : s.1 145 (5000 * b + i) = nI kx := by
    rw [W.1.2.2.1, ← hx]
    exact nA_9 (by rw [o]; decide)
  have g2 := bs_ge T t.1 H H.1
  have b3 := bs_3 hn H H.1 (fun x x1 x2 => (hH x x1 x2).1)
  have s102 : s.1 97 102 = nI (bsH T t.1 H H.1) := M.1.2.2.1.1
  have s103 : s.1 97 103 = nI H.1 := M.1.2.2.1.2.1
  have s101 : s.1 97 101 = nI wm := M.1.2.2.2.1.1
  have fle : fldT T t.1 (cK kk) ≤ 384 := h384 _
  have sz : szO T t.1 (cK kk) = 2 + nmL t.1 (cK kk) + fldT T t.1 (cK kk) := rfl
  have need : (2 : Int32) + nI (nmL t.1 (cK kk)) + nI (fldT T t.1 (cK kk)) = nI (szO T t.1 (cK kk)) := by rw [show (2 : Int32) = nI 2 from rfl, nI_add, nI_add, sz]
  have pre : mjF (d + 6) 231 [.ref 97, .int (nI (5000 * b + i))] (mjW0 s) = bN (mjF (d + 5) 233 [.ref 97, .int (nI (5000 * b + i))] (mjW0 s)) (fun hp27 => some (none, hp27)) := by
    rw [e_231]
    unfold f_231 b_231_0
    rw [xg_97_116, M.c16, xg_97_54, wa_143 (by omega), W.1.1, o, if_neg (by decide), if_neg (by decide), if_neg (by decide), if_neg (by decide), if_neg (by decide), if_neg (by decide), if_pos rfl, xV_97]
  have pre2 : mjF (d + 5) 233 [.ref 97, .int (nI (5000 * b + i))] (mjW0 s) = (if nI (bsH T t.1 H H.1 + szO T t.1 (cK kk)) ≤ nI wm then rV (mjW0 s) 97 12 (bN (mjF (d + 4) 235 [.ref 97, .int (nI kx)] (mjW0 s)) (fun hp11 => gI hp11 97 12 103 (fun v12 => gR hp11 97 12 109 (fun v13 => sI hp11 v13 (v12 + (1 : Int32)) (nI (16 * b + cK kk)) (fun hp14 => gR hp14 97 12 110 (fun v15 => gI hp14 97 12 102 (fun v16 => gI hp14 97 12 103 (fun v17 => sI hp14 v15 (v12 + (1 : Int32)) (v16 - ((2 : Int32) * v17)) (fun hp18 => L_233_99 (mjF (d + 4)) mjN 97 (nI (16 * b + cK kk)) (nI (szO T t.1 (cK kk))) (v12 + (1 : Int32)) (0 : Int32) hp18))))))))) else gR (mjW0 s) 97 12 55 (fun v19 => aI (mjW0 s) v19 (nI (5000 * b + i)) (fun v20 => rV (mjW0 s) 97 12 (bN (mjF (d + 4) 234 [.ref 97, .int (4 : Int32), .int v20] (mjW0 s)) (fun hp21 => some (none, hp21)))))) := by
    rw [e_233]
    unfold f_233 b_233_0
    rw [xg_97_56, wa_145 (by omega), e145, xg_97_50, wa_139 hk, h9, xg_97_15, wa_104 (by omega), P.1 _ ck, xg_97_20, wa_109 (by omega), hfd _ ck, xg_97_102, s102, xg_97_101, s101, need, nI_add]
  rw [pre, pre2, as_7 o, hkd]
  show gAct T t b wm cm (if wm < bsH T t.1 H H.1 + szO T t.1 (cK kk) then aFail (H, f :: fs, k, st, sc) 4 r.2.1 else (addO H (cK kk) (fun x => hereO T t.1 H f.1 f.2.1 (oK kk x)), f :: fs, k, nI (H.1 + 1) :: st, sc)) s _
  by_cases g : wm < bsH T t.1 H H.1 + szO T t.1 (cK kk)
  · rw [if_pos g, if_neg (nI_ge g (by omega)), xg_97_55, wa_144 (by omega), W.1.2.1]
    obtain ⟨s3, p1, p2, p3⟩ := x_234 (d := d + 3) M 4 r.2.1
    exact ⟨s3, by rw [xV_97, p1, bN_s, bN_s], p2, p3⟩
  · rw [if_neg g, if_pos (nI_le (by omega) (by omega))]
    obtain ⟨s1, a1, a2, a3⟩ := x_235 (d := d) Ac hb M P.1 P.2 hH (by omega) hfl m384 F hC vk hk h8 h2 h5 hnm
    have M1 := M.now a2
    have r1 : ∀ h, ¬ (h = 97 ∨ h = 165 ∨ h = 166 ∨ h = 185) → s1.1 h = s.1 h := fun h hh => funext fun y => a2.1 h y (by omega)
    have f103 : s1.1 97 103 = nI H.1 := M1.1.2.2.1.2.1
    have f102 : s1.1 97 102 = nI (bsH T t.1 H H.1) := M1.1.2.2.1.1
    have F0e : frO T t.1 H (H.1 + 1) = bsH T t.1 H H.1 - 2 * H.1 := rfl
    obtain ⟨z1, g1⟩ : ∃ y, y = uI s1 169 (upd (s1.1 169) (H.1 + 1) (nI (16 * b + cK kk))) := ⟨_, rfl⟩
    obtain ⟨z2, g2'⟩ : ∃ y, y = uI z1 170 (upd (z1.1 170) (H.1 + 1) (nI (frO T t.1 H (H.1 + 1)))) := ⟨_, rfl⟩
    have q1 : ∀ h, ¬ h = 169 → z1.1 h = s1.1 h := fun h e => by rw [g1]; exact uI_ne _ _ _ _ e
    have q2 : ∀ h, ¬ h = 170 → z2.1 h = z1.1 h := fun h e => by rw [g2']; exact uI_ne _ _ _ _ e
    have qq : ∀ h, ¬ h = 169 → ¬ h = 170 → z2.1 h = s1.1 h := fun h e1 e2 => by rw [q2 h e2, q1 h e1]
    have v0 : ∀ x, z2.1 170 x = if x = H.1 + 1 then nI (frO T t.1 H (H.1 + 1)) else s1.1 170 x := fun x => by rw [g2', uI_same, upd_g, q1 170 (by decide)]
    have v9 : ∀ x, z2.1 169 x = if x = H.1 + 1 then nI (16 * b + cK kk) else s1.1 169 x := fun x => by rw [q2 169 (by decide), g1, uI_same, upd_g]
    have sub : nI (bsH T t.1 H H.1) - (2 : Int32) * nI H.1 = nI (frO T t.1 H (H.1 + 1)) := by
      rw [show (2 : Int32) = nI 2 from rfl, nI_mul, F0e]
      have e : bsH T t.1 H H.1 = (bsH T t.1 H H.1 - 2 * H.1) + 2 * H.1 := by omega
      rw [e, ← nI_add, Int32.add_sub_cancel, show bsH T t.1 H H.1 - 2 * H.1 + 2 * H.1 - 2 * H.1 = bsH T t.1 H H.1 - 2 * H.1 by omega]
    obtain ⟨s2, c1, c2, c3⟩ := lq_233a (L := t.1) (b := b) (c := cK kk) (F0 := frO T t.1 H (H.1 + 1)) (o1 := H.1 + 1) (l4 := nI (szO T t.1 (cK kk))) (ow := fun x => hereO T t.1 H f.1 f.2.1 (oK kk x)) (mjF (d + 4)) hb (by omega) n5.2 (by omega) (by omega) (nmL t.1 (cK kk)) 0 mjN z2 (by omega) (by omega) (by rw [qq 104 (by decide) (by decide), r1 104 (by decide)]; exact P.1 _ ck) (by rw [v0, if_pos rfl]) (fun x hx => by rw [qq 185 (by decide) (by decide)]; exact a3 x hx) (fun x hx => by omega)
    obtain ⟨s3, d1, d2, d3⟩ := lq_233b (T := T) (L := t.1) (b := b) (c := cK kk) (F0 := frO T t.1 H (H.1 + 1)) (o1 := H.1 + 1) (l4 := nI (szO T t.1 (cK kk))) (mjF (d + 4)) hb (by omega) n5.2 (by omega) (by omega) (fldT T t.1 (cK kk)) 0 mjN s2 (by omega) (by omega) (by rw [c2.1 104 _ (by omega), qq 104 (by decide) (by decide), r1 104 (by decide)]; exact P.1 _ ck) (by rw [c2.1 109 _ (by omega), qq 109 (by decide) (by decide), r1 109 (by decide)]; exact hfd _ ck) (by rw [c2.1 170 _ (by omega), v0, if_pos rfl]) (fun x hx => by omega)
    have o13 : ∀ h, ¬ h = 168 → s3.1 h = z2.1 h := fun h e => funext fun y => (d2.1 h y (by omega)).trans (c2.1 h y (by omega))
    have e97 : s3.1 97 = s1.1 97 := by rw [o13 97 (by decide), qq 97 (by decide) (by decide)]
    obtain ⟨z4, g4⟩ : ∃ y, y = uI s3 97 (upd (s3.1 97) 102 (nI (bsH T t.1 H H.1 + szO T t.1 (cK kk)))) := ⟨_, rfl⟩
    obtain ⟨z5, g5⟩ : ∃ y, y = uI z4 97 (upd (z4.1 97) 103 (nI (H.1 + 1))) := ⟨_, rfl⟩
    have w97 : ∀ x, z5.1 97 x = if x = 103 then nI (H.1 + 1) else if x = 102 then nI (bsH T t.1 H H.1 + szO T t.1 (cK kk)) else s1.1 97 x := fun x => by rw [g5, uI_same, upd_g, g4, uI_same, upd_g, e97]
    have rr5 : ∀ h, ¬ h = 97 → z5.1 h = s3.1 h := fun h e => by rw [g5, uI_ne _ _ _ _ e, g4, uI_ne _ _ _ _ e]
    have nn : ∀ x, ¬ (x = 102 ∨ x = 103) → z5.1 97 x = s1.1 97 x := fun x hx => by rw [w97, if_neg (by omega), if_neg (by omega)]
    have rk : ∀ h, ¬ (h = 97 ∨ (168 ≤ h ∧ h ≤ 170)) → z5.1 h = s1.1 h := fun h hh => by rw [rr5 h (by omega), o13 h (by omega), qq h (by omega) (by omega)]
    have M5 : MRn T t b wm cm (addO H (cK kk) (fun x => hereO T t.1 H f.1 f.2.1 (oK kk x)), f :: fs, k, st, sc) z5 := by
      obtain ⟨⟨⟨b1, b2', b3', b4⟩, ⟨b5, b6, b7⟩, ⟨b8, b9, b10⟩, ⟨b11, b12⟩, b13⟩, hHp, hF, hT⟩ := M1
      obtain ⟨t1, t2, t3⟩ := hT f fs rfl
      have hHp' : HPr T t.1 b H s1 := hHp
      have bsn : bsH T t.1 (addO H (cK kk) (fun x => hereO T t.1 H f.1 f.2.1 (oK kk x))) (H.1 + 1) = bsH T t.1 H H.1 + szO T t.1 (cK kk) := by
        show bsH T t.1 (addO H (cK kk) (fun x => hereO T t.1 H f.1 f.2.1 (oK kk x))) H.1 + szO T t.1 (if H.1 + 1 = H.1 + 1 then (cK kk, (fun x => hereO T t.1 H f.1 f.2.1 (oK kk x)), fun _ => 0) else H.2 (H.1 + 1)).1 = _
        rw [if_pos rfl, bs_same (H := H) (fun o p1 p2 => HX.add.2 o p1 p2) H.1 (Nat.le_refl _)]
      refine ⟨⟨⟨by rw [nn 96 (by omega)]; exact b1, by rw [nn 97 (by omega)]; exact b2', by rw [nn 98 (by omega)]; exact b3', by rw [nn 99 (by omega)]; exact b4⟩, ⟨by rw [nn 100 (by omega)]; exact b5, by rw [nn 105 (by omega)]; exact b6, by rw [nn 106 (by omega)]; exact b7⟩, ⟨?_, by rw [w97, if_pos rfl]; rfl, by rw [nn 116 (by omega)]; exact b10⟩, ⟨by rw [nn 101 (by omega)]; exact b11, by rw [nn 104 (by omega)]; exact b12⟩, fun x h1 h2 => by rw [rk 167 (by omega)]; exact b13 x h1 h2⟩, ?_, FRr.keep (fun x hx => rk x (by omega)) _ hF, fun g gs hg => ?_⟩
      · show z5.1 97 102 = nI (bsH T t.1 (addO H (cK kk) (fun x => hereO T t.1 H f.1 f.2.1 (oK kk x))) (H.1 + 1))
        rw [w97, if_neg (by decide), if_pos rfl, bsn]
      · refine hHp'.add (fun x => by rw [rr5 169 (by decide), o13 169 (by decide), v9]) (fun x => by rw [rr5 170 (by decide), o13 170 (by decide), v0]) (fun x hx => ?_) (fun x hx => by rw [rr5 168 (by decide)]; exact d3 x hx) (fun x hx => ?_)
        · rw [rr5 168 (by decide), d2.1 168 _ (by omega)]; exact c3 x hx
        · rw [rr5 168 (by decide), d2.1 168 _ (by omega), c2.1 168 _ (by omega), qq 168 (by decide) (by decide)]
      · have hg' : f = g := (List.cons.inj hg).1
        rw [← hg']
        exact ⟨by rw [nn 119 (by omega)]; exact t1, by rw [nn 118 (by omega)]; exact t2, STr.low st (fun x _ => by rw [rk 176 (by omega)]) t3⟩
    obtain ⟨s6, p1, p2, p3⟩ := x_232 (d := d + 3) M5 hl (nI (H.1 + 1))
    have oz : oRn s z5 := by
      refine offG.tr a2.Rn (offG.tr (b := z1) (by rw [g1]; exact oRn.wr (by unfold chRn; omega)) (offG.tr (b := z2) (by rw [g2']; exact oRn.wr (by unfold chRn; omega)) (offG.tr c2.Rn (offG.tr d2.Rn (offG.tr (b := z4) (by rw [g4]; exact oRn.wr (by unfold chRn; omega)) (by rw [g5]; exact oRn.wr (by unfold chRn; omega)))))))
    refine ⟨s6, ?_, offG.tr oz p2, p3⟩
    rw [xV_97, a1, bN_s, xg_97_103, f103, xg_97_109, nI_1, ws_169 (by omega), ← g1, xg_97_110, xg_97_102, q1 97 (by decide), f102, xg_97_103, q1 97 (by decide), f103, sub, ws_170 (by omega), ← g2', show (0 : Int32) = nI 0 from rfl, c1, d1, xg_97_102, e97, f102, xp_97_102, nI_add, ← g4, xp_97_103, ← g5, xV_97, p1, bN_s, bN_s]
end MJB45
