/-! ===== the reference judges one order: values ===== -/
section MJA99
variable {T : TT} {d N b k t c n m v kq Xe i : Nat} {ks : List Nat} {L : List CD} {s s' s'' : mjSt3} {tr : Bool} {E : EV} {j : JS} {x : WS} {r : Row} {u : mjU} {mm : Option Nat}
/-- other TYPES wait, what is left of = is this order -/
theorem BR.mkL (hn : HN T N L) (R : BR L b s j x Xe) (o : oQ n s s') {st : List (Nat × Bool)} (hst : TSs L b s' st) (h82 : s'.1 97 82 = nI st.length) {h' : Nat} (hl : st.length = h') (h60 : st.length ≤ 60) {rs : List Nat} {q' lf lx : Nat} (hlf : s'.1 145 (5000 * b + lx) = nI lf) : BR L b s' (st, j.2.1, j.2.2.1, j.2.2.2.1, j.2.2.2.2.1, j.2.2.2.2.2.1, lf, rs) ((x.1.1, h', x.1.2.2.1, q'), x.2.1, lx, x.2.2.2) Xe := by
  obtain ⟨_, ⟨c1, c2, c3⟩, ⟨v1, v2⟩, ⟨d1, d2⟩, l⟩ := R
  exact ⟨⟨h82, hst, hl, h60⟩, ⟨by rw [o.f (by omega)]; exact c1, PDs.same hn c2 (o.r (by omega)) (o.r (by omega)), c3⟩, ⟨v1.same (by rw [o.l]) (o.r (by omega)) (o.r (by omega)) (o.r (by omega)) (o.f (by omega)) (o.r (by omega)) (o.r (by omega)) (o.r (by omega)), v2⟩, ⟨by rw [o.f (by omega)]; exact d1, d2⟩, hlf⟩
theorem oQ.g (o : oT n s s') (g : gR0 s) : gR0 s' := by
  show s'.1 97 61 = 0
  rw [o.1 97 61 (by omega)]
  exact g
theorem oUp.g (o : oUp s s') (g : gR0 s) : gR0 s' := by
  show s'.1 97 61 = 0
  rw [o.1 97 61 (by omega)]
  exact g
theorem tyC_0 (hn : HN T N L) (hb : b ≤ 1) {p : Nat} (h : TO1 L s p t) : tyC b t = -1 ↔ t = 0 := by
  match t, h with
  | 0, _ => exact ⟨fun _ => rfl, fun _ => rfl⟩
  | 1, _ => exact ⟨fun x => absurd (show (-2 : Int32) = -1 from x) (by decide), fun x => by cases x⟩
  | k + 2, ⟨v, _⟩ =>
    have := v.cl hn
    have := hn.1
    exact ⟨fun x => absurd x (nI_m1 (by omega)), fun x => by cases x⟩
theorem j_3 (S : BS E.1 N b ks E.2.1 E.2.2.1 s) (g : gR0 s) (R : BR E.2.1 b s j x Xe) (row : Rw s (5000 * b + i) r) (hi : i < 5000) (hr : r.1 = 3 ∨ r.1 = 4) (ok : okEr 60 20 120 r x.1) : gJ E N b ks i kq Xe r j x s (mjF (d + 7) 323 [.ref 97, .int (nI (5000 * b + i))] (mjW0 s)) := by
  have J := S.1.1
  have hn := J.2.2.2.2.2.1
  have hb := J.b1
  have hx : nxW r i x = ((x.1.1, x.1.2.1 + 1, x.1.2.2.1, x.1.2.2.2 + 1), x.2) := by
    rw [nxW_E ok.1]
    show (hxE r x.1, x.2) = _
    unfold hxE
    rw [if_pos (by rcases hr with h | h <;> · rw [h]; decide)]
  have h60 : x.1.2.1 + 1 ≤ 60 := by
    have := ok.2.2.1
    unfold hxE at this
    rw [if_pos (by rcases hr with h | h <;> · rw [h]; decide)] at this
    exact this
  have hl := R.1.2.2.1
  have h0 := R.1.2.2.2
  have h7 : ¬ r.1 = 7 ∧ ¬ r.1 = 14 ∧ ¬ r.1 = 6 ∧ ¬ r.1 = 15 ∧ ¬ r.1 = 10 ∧ ¬ r.1 = 16 ∧ ¬ r.1 = 17 ∧ ¬ r.1 = 18 := by rcases hr with h | h <;> · rw [h]; decide
  have fin : ∀ (ty : Nat) (ti : Int32) (l : List Ins), ti = tyC b ty → TO1 E.2.1 s j.1.length ty → (∀ z : mjSt3, TO1 E.2.1 z j.1.length ty) → jrow E r j = some (jpush j ty false (ty :: jRS j), l) → mjF (d + 7) 323 [.ref 97, .int (nI (5000 * b + i))] (mjW0 s) = bN (mjF (d + 6) 324 [.ref 97, .int ti] (mjW0 s)) (fun hp4 => some (none, hp4)) → gJ E N b ks i kq Xe r j x s (mjF (d + 7) 323 [.ref 97, .int (nI (5000 * b + i))] (mjW0 s)) := by
    intro ty ti l e1 _ e2 hj pre
    obtain ⟨s1, a1, a2, a3, a4, a5⟩ := x_324 (d := d + 5) (n := j.1.length) (by omega) R.1.1 ti
    rw [a1, bN_s] at pre
    refine gJ.ok hj S pre (oT.V a2) (oQ.g a2 g) ?_ ?_ h7.1 h7.2.1
    · rw [hx]
      exact BR.mkT hn R (a2.Q2 (Nat.le_refl _)) (st := (ty, false) :: j.1) ⟨⟨by rw [a3, e1], a4, e2 s1⟩, TSs.keepT hn R.1.2.1 a2 (Nat.le_refl _)⟩ a5 (by rw [List.length_cons, hl]) (by rw [List.length_cons]; omega)
    · rw [a2.r (by omega), row.2.2.1, nA_o h7.2.2.1 h7.2.2.2.1 h7.2.2.2.2.1 h7.2.2.2.2.2.1 h7.2.2.2.2.2.2.1 h7.2.2.2.2.2.2.2]
  rcases hr with hr | hr
  · refine fin 0 (-1) _ rfl trivial (fun _ => trivial) (by unfold jrow; rw [if_pos hr]) ?_
    rw [e_323]
    unfold f_323 b_323_0
    rw [xg_97_54, wa_143 (by omega), row.1, hr, if_pos rfl, xV_97]
  · refine fin 1 (-2) _ rfl trivial (fun _ => trivial) (by unfold jrow; rw [hr, if_neg (by decide), if_pos rfl]) ?_
    rw [e_323]
    unfold f_323 b_323_0
    rw [xg_97_54, wa_143 (by omega), row.1, hr, if_neg (by decide), if_pos rfl, xV_97]
theorem L323a_S (R : mjR) (n a : Nat) (b : Int32) (hp : mjH) : L_323_181 R (n + 1) a b hp = b_323_181 R (L_323_181 R n) a b hp := rfl
theorem lq_323a (R : mjR) (h200 : n < 200) : ∀ (r i m : Nat) (s : mjSt3), i + r = 5 → r < m → s.1 97 82 = nI (n + 1) → (∀ x, x < i → s.1 157 (5 * n + x) = nI x) → ∃ s', L_323_181 R m 97 (nI i) (mjW0 s) = some (none, mjW0 s') ∧ oT n s s' ∧ s'.1 155 = s.1 155 ∧ s'.1 97 = s.1 97 ∧ s'.1 156 n = 1 ∧ ∀ x, x < 5 → s'.1 157 (5 * n + x) = nI x
  | r, i, 0, s, e, hr, h82, w => by omega
  | 0, i, m + 1, s, e, hr, h82, w => by
    obtain ⟨z, hz⟩ : ∃ z, z = uI s 156 (upd (s.1 156) n 1) := ⟨_, rfl⟩
    have r1 : ∀ h, ¬ h = 156 → z.1 h = s.1 h := fun h e => by rw [hz]; exact uI_ne _ _ _ _ e
    refine ⟨z, ?_, by rw [hz]; exact offG.w (Or.inr (Or.inl ⟨Or.inr rfl, rfl⟩)), r1 _ (by decide), r1 _ (by decide), by rw [hz, uI_same, upd_g, if_pos rfl], fun x hx => by rw [r1 157 (by decide)]; exact w x (by omega)⟩
    rw [L323a_S]
    unfold b_323_181
    rw [if_pos (show (5 : Int32) ≤ nI i from nI_le (a := 5) (by omega) (by omega)), xg_97_80, xg_97_82, h82, nI_pred, ws_156 h200, ← hz]
  | r + 1, i, m + 1, s, e, hr, h82, w => by
    obtain ⟨z, hz⟩ : ∃ z, z = uI s 157 (upd (s.1 157) (5 * n + i) (nI i)) := ⟨_, rfl⟩
    have r1 : ∀ h, ¬ h = 157 → z.1 h = s.1 h := fun h e => by rw [hz]; exact uI_ne _ _ _ _ e
    obtain ⟨s', b1, b2', b3, b4, b5, b6⟩ := lq_323a R h200 r (i + 1) m z (by omega) (by omega) (by rw [r1 97 (by decide)]; exact h82) (fun y hy => by
      rw [hz, uI_same, upd_g]
      by_cases e' : y = i
      · rw [if_pos (by rw [e']), e']
      · rw [if_neg (by omega)]; exact w y (by omega))
    refine ⟨s', ?_, (show oT n s z by rw [hz]; exact offG.w (Or.inr (Or.inr ⟨rfl, by omega, by omega⟩))).tr b2', by rw [b3, r1 155 (by decide)], by rw [b4, r1 97 (by decide)], b5, b6⟩
    rw [← b1, L323a_S]
    unfold b_323_181
    rw [if_neg (show ¬ (5 : Int32) ≤ nI i from nI_ge (b := 5) (by omega) (by decide)), xg_97_81, xg_97_82, h82, i5s, ws_157 (by omega), ← hz, nI_1]
theorem j_5 (S : BS E.1 N b ks E.2.1 E.2.2.1 s) (g : gR0 s) (W : NW E b mm s) (R : BR E.2.1 b s j x Xe) (row : Rw s (5000 * b + i) r) (hi : i < 5000) (hr : r.1 = 5) (ok : okEr 60 20 120 r x.1) : gJ E N b ks i kq Xe r j x s (mjF (d + 7) 323 [.ref 97, .int (nI (5000 * b + i))] (mjW0 s)) := by
  have hmj := mjN_v
  have J := S.1.1
  have hn := J.2.2.2.2.2.1
  have hb := J.b1
  have h16 := J.len
  have hx : nxW r i x = ((x.1.1, x.1.2.1 + 1, x.1.2.2.1, x.1.2.2.2 + 1), x.2) := by
    rw [nxW_E ok.1]
    show (hxE r x.1, x.2) = _
    unfold hxE
    rw [if_pos (by rw [hr]; decide)]
  have h60 : x.1.2.1 + 1 ≤ 60 := by
    have := ok.2.2.1
    unfold hxE at this
    rw [if_pos (by rw [hr]; decide)] at this
    exact this
  have hl := R.1.2.2.1
  have pre : mjF (d + 7) 323 [.ref 97, .int (nI (5000 * b + i))] (mjW0 s) = (if cR b E.2.2.2.2.1 = -1 then bN (mjF (d + 6) 268 [.ref 97, .int 5, .int r.2.1] (mjW0 s)) (fun hp13 => some (none, hp13)) else bN (mjF (d + 6) 324 [.ref 97, .int (cR b E.2.2.2.2.1)] (mjW0 s)) (fun hp10 => L_323_181 (mjF (d + 6)) mjN 97 0 hp10)) := by
    rw [e_323]
    unfold f_323 b_323_0
    rw [xg_97_54, wa_143 (by omega), row.1, hr, if_neg (by decide), if_neg (by decide), if_pos rfl, xg_97_132, W.1, xg_97_55, wa_144 (by omega), row.2.1, xg_97_132, W.1, xV_97, xV_97]
  have nA' : nA E r j = r.2.2.1 := nA_o (by rw [hr]; decide) (by rw [hr]; decide) (by rw [hr]; decide) (by rw [hr]; decide) (by rw [hr]; decide) (by rw [hr]; decide)
  have hj : jrow E r j = match E.2.2.2.2.1 with
    | none => none
    | some c => some (jpush j (own (nmL E.2.1) c + 2) true ((own (nmL E.2.1) c + 2) :: jRS j), [(3, 0, -1)]) := by
    unfold jrow
    rw [hr, if_neg (by decide), if_neg (by decide), if_pos rfl]
    cases E.2.2.2.2.1 <;> rfl
  cases hc : E.2.2.2.2.1 with
  | none =>
    rw [hc] at pre hj
    obtain ⟨s1, a1, a2, a3⟩ := x_268 (d := d + 5) (s := s) (Or.inl g) (a := 5) (by decide) r.2.1
    rw [if_pos (show cR b none = -1 from rfl), a1, bN_s] at pre
    exact gJ.bad hj pre (o61.V a2) a3
  | some c =>
    have cl := W.2.2.1 c hc
    rw [hc] at pre hj
    obtain ⟨s1, a1, a2, a3, a4, a5⟩ := x_324 (d := d + 5) (n := j.1.length) (by omega) R.1.1 (nI (16 * b + c))
    obtain ⟨s2, b1, b2', b3, b4, b5, b6⟩ := lq_323a (mjF (d + 6)) (n := j.1.length) (by omega) 5 0 mjN s1 (by omega) (by omega) a5 (fun y hy => by omega)
    rw [if_neg (show ¬ cR b (some c) = -1 from nI_m1 (by omega)), show cR b (some c) = nI (16 * b + c) from rfl, a1, bN_s, show (0 : Int32) = nI 0 from rfl, b1] at pre
    have o2 : oT j.1.length s s2 := a2.tr b2'
    have n5 := (vK.n5 hn cl).2
    have f8 : ∀ i, i < nmL E.2.1 c → i < 8 := fun i hi => by omega
    have ec : cK (own (nmL E.2.1) c) = c := mkK_c n5 f8
    refine gJ.ok hj S pre (oT.V o2) (oQ.g o2 g) ?_ ?_ (by rw [hr]; decide) (by rw [hr]; decide)
    · rw [hx]
      refine BR.mkT hn R (o2.Q2 (Nat.le_refl _)) (st := (own (nmL E.2.1) c + 2, true) :: j.1) ⟨⟨?_, b5, vK.own hn cl, fun y hy => ?_⟩, TSs.keepT hn R.1.2.1 o2 (Nat.le_refl _)⟩ (by rw [b4]; exact a5) (by rw [List.length_cons, hl]) (by rw [List.length_cons]; omega)
      · rw [b3, a3]
        show nI (16 * b + c) = nI (16 * b + cK (own (nmL E.2.1) c))
        rw [ec]
      · rw [ec] at hy
        rw [b6 y (by omega), show oK (own (nmL E.2.1) c) y = y from mkK_o n5 f8 hy]
        unfold oR
        rw [if_neg (by omega), if_neg (by omega)]
    · rw [o2.r (by omega), row.2.2.1, nA']
theorem j_6 (S : BS E.1 N b ks E.2.1 E.2.2.1 s) (g : gR0 s) (R : BR E.2.1 b s j x Xe) (row : Rw s (5000 * b + i) r) (hi : i < 5000) (hr : r.1 = 6 ∨ r.1 = 15) (h60 : x.1.2.1 + 1 ≤ 60) (hlx : ¬ x.2.2.1 = i) : gJ E N b ks i kq Xe r j x s (mjF (d + 7) 323 [.ref 97, .int (nI (5000 * b + i))] (mjW0 s)) := by
  have J := S.1.1
  have hn := J.2.2.2.2.2.1
  have hb := J.b1
  have hl := R.1.2.2.1
  have V := R.2.2.1.1
  have pre : mjF (d + 7) 323 [.ref 97, .int (nI (5000 * b + i))] (mjW0 s) = b_323_223 (mjF (d + 6)) 97 (nI (5000 * b + i)) (mjW0 s) := by
    rw [e_323]
    unfold f_323 b_323_0
    rcases hr with hr | hr
    · rw [xg_97_54, wa_143 (by omega), row.1, hr, if_neg (by decide), if_neg (by decide), if_neg (by decide), if_pos rfl]
    · rw [xg_97_54, wa_143 (by omega), row.1, hr, if_neg (by decide), if_neg (by decide), if_neg (by decide), if_neg (by decide), if_neg (by decide), if_neg (by decide), if_neg (by decide), if_neg (by decide), if_neg (by decide), if_neg (by decide), if_neg (by decide), if_neg (by decide), if_pos rfl]
  unfold b_323_223 at pre
  rw [xg_97_58, wa_147 (by omega), row.2.2.2.2, xV_97, x_325 (d := d + 5) V, bI_s, xg_97_55, wa_144 (by omega), row.2.1] at pre
  have nA' : nA E r j = vN (vsK j.2.2.1 r.2.2.2.2) := by
    unfold nA
    rw [if_pos hr]
  have h7 : ¬ r.1 = 7 ∧ ¬ r.1 = 14 := by rcases hr with h | h <;> · rw [h]; decide
  cases hv : vsK j.2.2.1 r.2.2.2.2 with
  | none =>
    rw [hv] at pre
    have hj : jrow E r j = none := by
      unfold jrow
      rcases hr with hr | hr
      · rw [hr, if_neg (by decide), if_neg (by decide), if_neg (by decide), if_pos rfl, hv]
      · rw [hr, if_neg (by decide), if_neg (by decide), if_neg (by decide), if_neg (by decide), if_pos rfl, hv]
    obtain ⟨s1, a1, a2, a3⟩ := x_268 (d := d + 5) (s := s) (Or.inl g) (a := 5) (by decide) r.2.1
    rw [if_pos (show vN none = -1 from rfl), xV_97, a1, bN_s] at pre
    exact gJ.bad hj pre (o61.V a2) a3
  | some e =>
    rw [hv] at pre nA'
    obtain ⟨he, _⟩ := vsK_mem hv
    obtain ⟨e1, e2, e3, e4, e5, e6⟩ := V.1 e he
    have v16 := V.2.2.2.2.2.1
    obtain ⟨z, hz⟩ : ∃ z, z = uI s 145 (upd (s.1 145) (5000 * b + i) (nI e.2.2.1)) := ⟨_, rfl⟩
    have r1 : ∀ h, ¬ h = 145 → z.1 h = s.1 h := fun h e => by rw [hz]; exact uI_ne _ _ _ _ e
    have oz : oV (5000 * b + i) s z := by rw [hz]; exact oV.set
    have Rz : BR E.2.1 b z j x Xe := by rw [hz]; exact BR.set R hlx hn
    obtain ⟨s1, a1, a2, a3, a4⟩ := x_326 (d := d + 4) (s := z) (n := j.1.length) (ti := s.1 159 e.2.2.1) hn (e3.cg (r1 _ (by decide)) (r1 _ (by decide)) (r1 _ (by decide))) (by omega) Rz.1.1
    rw [if_neg (show ¬ vN (some e) = -1 from nI_m1 (by omega)), xg_97_56, ws_145 (by omega), show vN (some e) = nI e.2.2.1 from rfl, ← hz, xg_97_84, wa_159 (by omega), r1 159 (by decide), xV_97, a1, bN_s] at pre
    have o2 : oV (5000 * b + i) s s1 := offG.tr oz (oT.V a2)
    have g1 : gR0 s1 := oQ.g a2 (by show z.1 97 61 = 0; rw [r1 97 (by decide)]; exact g)
    have z5 : s1.1 145 (5000 * b + i) = nI e.2.2.1 := by rw [a2.r (by omega), hz, uI_same, upd_g, if_pos rfl]
    have ts : TSs E.2.1 b s1 ((e.2.1, false) :: j.1) := ⟨a3, TSs.keepT hn Rz.1.2.1 a2 (Nat.le_refl _)⟩
    rcases hr with hr | hr
    · have hj : jrow E r j = some (jpush j e.2.1 false (e.2.1 :: jRS j), [(1, nI e.2.2.1, -1)]) := by
        unfold jrow
        rw [hr, if_neg (by decide), if_neg (by decide), if_neg (by decide), if_pos rfl, hv]
      have hx : nxW r i x = ((x.1.1, x.1.2.1 + 1, x.1.2.2.1, x.1.2.2.2 + 1), x.2) := by
        unfold nxW
        rw [hr, if_neg (by decide), if_neg (by decide), if_neg (by decide), if_neg (by decide), if_neg (by decide), if_neg (by decide), if_neg (by decide), if_neg (by decide), if_neg (by decide), if_neg (by decide)]
        unfold hxE
        rw [hr, if_pos (by decide)]
      refine gJ.ok hj S pre o2 g1 ?_ (by rw [z5, nA']; rfl) h7.1 h7.2
      rw [hx]
      exact BR.mkT hn Rz (a2.Q2 (Nat.le_refl _)) (st := (e.2.1, false) :: j.1) ts a4 (by rw [List.length_cons, hl]) (by rw [List.length_cons]; omega)
    · have hj : jrow E r j = some (((e.2.1, false) :: j.1, j.2.1, j.2.2.1, j.2.2.2.1, j.2.2.2.2.1, j.2.2.2.2.2.1, e.2.2.1, jRS j), []) := by
        unfold jrow
        rw [hr, if_neg (by decide), if_neg (by decide), if_neg (by decide), if_neg (by decide), if_pos rfl, hv]
      have hx : nxW r i x = ((x.1.1, x.1.2.1 + 1, x.1.2.2.1, x.1.2.2.2), x.2.1, i, x.2.2.2) := by
        unfold nxW
        rw [if_pos hr]
      refine gJ.ok hj S pre o2 g1 ?_ (by rw [z5, nA']; rfl) h7.1 h7.2
      rw [hx]
      exact BR.mkL hn Rz (a2.Q2 (Nat.le_refl _)) (st := (e.2.1, false) :: j.1) ts a4 (by rw [List.length_cons, hl]) (by rw [List.length_cons]; omega) z5
end MJA99
