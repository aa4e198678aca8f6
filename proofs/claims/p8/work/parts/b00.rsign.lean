/-! ===== the reference judges one order: signs, tests ===== -/
section MJB00
variable {T : TT} {d N b k t c n m v kq Xe i : Nat} {ks : List Nat} {L : List CD} {s s' s'' : mjSt3} {tr : Bool} {E : EV} {j : JS} {x : WS} {r : Row} {u : mjU} {mm : Option Nat}
theorem nI_p2 (n : Nat) : nI (n + 2) - 2 = nI n := by
  rw [show (2 : Int32) = nI 2 from rfl, ← nI_add, Int32.add_sub_cancel]
theorem lst1 {α : Type} {l : List α} (h : 1 ≤ l.length) : ∃ e st, l = e :: st := by
  cases l with
  | nil => exact absurd h (by show ¬ 1 ≤ 0; omega)
  | cons e st => exact ⟨e, st, rfl⟩
theorem lst2 {α : Type} {l : List α} (h : 2 ≤ l.length) : ∃ e f st, l = e :: f :: st := by
  cases l with
  | nil => exact absurd h (by show ¬ 2 ≤ 0; omega)
  | cons e st =>
    obtain ⟨f, st', h'⟩ := lst1 (l := st) (by have : 2 ≤ st.length + 1 := h; omega)
    exact ⟨e, f, st', by rw [h']⟩
/-- a TYPE less -/
theorem less (hn : HN T N L) {e : Nat × Bool} {st : List (Nat × Bool)} (h1 : s.1 97 82 = nI (e :: st).length) (h2 : TSs L b s (e :: st)) : ∃ s', s' = uI s 97 (upd (s.1 97) 82 (nI st.length)) ∧ oQ st.length s s' ∧ TSs L b s' st ∧ s'.1 97 82 = nI st.length ∧ s'.1 97 61 = s.1 97 61 := by
  refine ⟨_, rfl, oQ.w82, ?_, by rw [uI_same, upd_g, if_pos rfl], by rw [uI_same, upd_g, if_neg (by decide)]⟩
  exact TSs.same hn h2.2 (uI_ne _ _ _ _ (by decide)) (uI_ne _ _ _ _ (by decide)) (uI_ne _ _ _ _ (by decide))
theorem j_30 (S : BS E.1 N b ks E.2.1 E.2.2.1 s) (g : gR0 s) (R : BR E.2.1 b s j x Xe) (row : Rw s (5000 * b + i) r) (hi : i < 5000) (hr : r.1 = 30) (ok : okEr 60 20 120 r x.1) : gJ E N b ks i kq Xe r j x s (mjF (d + 7) 323 [.ref 97, .int (nI (5000 * b + i))] (mjW0 s)) := by
  have J := S.1.1
  have hn := J.2.2.2.2.2.1
  have hb := J.b1
  have h60 := R.1.2.2.2
  have hl := R.1.2.2.1
  have lo := ok.2.2.2.2.2.2.1 (Or.inr (Or.inl hr))
  obtain ⟨e, st, ej⟩ := lst1 (show 1 ≤ j.1.length by omega)
  have q1 := R.1.1
  have q2 := R.1.2.1
  rw [ej] at q1 q2 hl h60
  rw [List.length_cons] at q1 hl h60
  obtain ⟨z, hz⟩ : ∃ z, z = uI s 156 (upd (s.1 156) st.length 0) := ⟨_, rfl⟩
  have r1 : ∀ h, ¬ h = 156 → z.1 h = s.1 h := fun h e => by rw [hz]; exact uI_ne _ _ _ _ e
  have oz : oQ st.length s z := by rw [hz]; exact offG.w (Or.inr (Or.inl ⟨Or.inr rfl, Nat.le_refl _⟩))
  have hj : jrow E r j = some (jst j ((e.1, false) :: st) (jRS j), []) := by
    unfold jrow
    rw [hr, if_neg (by decide), if_neg (by decide), if_neg (by decide), if_neg (by decide), if_neg (by decide), if_neg (by decide), if_pos rfl, ej]
  have hx : nxW r i x = x := by
    rw [nxW_E ok.1]
    show (hxE r x.1, x.2) = x
    unfold hxE
    rw [hr, if_neg (by decide), if_neg (by decide), if_neg (by decide), if_neg (by decide), if_neg (by decide), if_neg (by decide), if_neg (by decide)]
  have pre : mjF (d + 7) 323 [.ref 97, .int (nI (5000 * b + i))] (mjW0 s) = some (none, mjW0 z) := by
    rw [e_323]
    unfold f_323 b_323_0
    rw [xg_97_54, wa_143 (by omega), row.1, hr, if_neg (by decide), if_neg (by decide), if_neg (by decide), if_neg (by decide), if_neg (by decide), if_neg (by decide), if_neg (by decide), if_neg (by decide), if_neg (by decide), if_neg (by decide), if_neg (by decide), if_neg (by decide), if_neg (by decide), if_neg (by decide), if_neg (by decide), if_neg (by decide), if_neg (by decide), if_neg (by decide), if_neg (by decide), if_neg (by decide), if_neg (by decide), if_neg (by decide), if_neg (by decide), if_neg (by decide), if_neg (by decide), if_neg (by decide), if_neg (by decide), if_pos rfl, xg_97_80, xg_97_82, q1, nI_pred, ws_156 (by omega), ← hz]
  refine gJ.ok hj S pre oz.V (by show z.1 97 61 = 0; rw [r1 97 (by decide)]; exact g) ?_ ?_ (by rw [hr]; decide) (by rw [hr]; decide)
  · rw [hx]
    exact BR.mkT hn R oz (st := (e.1, false) :: st) (x := x) (q' := x.1.2.2.2) ⟨⟨by rw [r1 155 (by decide)]; exact q2.1.1, by rw [hz, uI_same, upd_g, if_pos rfl]; rfl, q2.1.2.2.cg hn (fun y _ => by rw [r1 157 (by decide)])⟩, TSs.keepQ hn q2.2 oz (Nat.le_refl _)⟩ (by rw [r1 97 (by decide)]; exact q1) hl h60
  · rw [r1 145 (by decide), row.2.2.1, nA_o (by rw [hr]; decide) (by rw [hr]; decide) (by rw [hr]; decide) (by rw [hr]; decide) (by rw [hr]; decide) (by rw [hr]; decide)]
theorem j_8 (S : BS E.1 N b ks E.2.1 E.2.2.1 s) (g : gR0 s) (R : BR E.2.1 b s j x Xe) (row : Rw s (5000 * b + i) r) (hi : i < 5000) (hr : r.1 = 8) (ok : okEr 60 20 120 r x.1) : gJ E N b ks i kq Xe r j x s (mjF (d + 7) 323 [.ref 97, .int (nI (5000 * b + i))] (mjW0 s)) := by
  have J := S.1.1
  have hn := J.2.2.2.2.2.1
  have hb := J.b1
  have h60 := R.1.2.2.2
  have hl := R.1.2.2.1
  have lo := ok.2.2.2.2.2.2.1 (Or.inr (Or.inr (Or.inl hr)))
  obtain ⟨e, st, ej⟩ := lst1 (show 1 ≤ j.1.length by omega)
  have q1 := R.1.1
  have q2 := R.1.2.1
  rw [ej] at q1 q2 hl h60
  rw [List.length_cons] at q1 hl h60
  have hj : jrow E r j = if e.1 = 0 then some (j, [(16, 0, r.2.1)]) else none := by
    unfold jrow
    rw [hr, if_neg (by decide), if_neg (by decide), if_neg (by decide), if_neg (by decide), if_neg (by decide), if_neg (by decide), if_neg (by decide), if_pos rfl, ej]
  have hx : nxW r i x = x := by
    rw [nxW_E ok.1]
    show (hxE r x.1, x.2) = x
    unfold hxE
    rw [hr, if_neg (by decide), if_neg (by decide), if_neg (by decide), if_neg (by decide), if_neg (by decide), if_neg (by decide), if_neg (by decide)]
  have pre : mjF (d + 7) 323 [.ref 97, .int (nI (5000 * b + i))] (mjW0 s) = if tyC b e.1 = -1 then some (none, mjW0 s) else bN (mjF (d + 6) 268 [.ref 97, .int 7, .int r.2.1] (mjW0 s)) (fun hp30 => some (none, hp30)) := by
    rw [e_323]
    unfold f_323 b_323_0
    rw [xg_97_54, wa_143 (by omega), row.1, hr, if_neg (by decide), if_neg (by decide), if_neg (by decide), if_neg (by decide), if_neg (by decide), if_pos rfl, xg_97_79, xg_97_82, q1, nI_pred, wa_155 (by omega), q2.1.1, xg_97_55, wa_144 (by omega), row.2.1, xV_97]
  have ty := tyC_0 hn hb q2.1.2.2
  by_cases q : e.1 = 0
  · rw [if_pos q] at hj
    rw [if_pos (ty.mpr q)] at pre
    refine gJ.ok hj S pre offG.rf g (by rw [hx]; exact R) ?_ (by rw [hr]; decide) (by rw [hr]; decide)
    rw [row.2.2.1, nA_o (by rw [hr]; decide) (by rw [hr]; decide) (by rw [hr]; decide) (by rw [hr]; decide) (by rw [hr]; decide) (by rw [hr]; decide)]
  · rw [if_neg q] at hj
    obtain ⟨s1, a1, a2, a3⟩ := x_268 (d := d + 5) (s := s) (Or.inl g) (a := 7) (by decide) r.2.1
    rw [if_neg (fun h => q (ty.mp h)), a1, bN_s] at pre
    exact gJ.bad hj pre (o61.V a2) a3
theorem j_9 (S : BS E.1 N b ks E.2.1 E.2.2.1 s) (g : gR0 s) (R : BR E.2.1 b s j x Xe) (row : Rw s (5000 * b + i) r) (hi : i < 5000) (hr : r.1 = 9) (ok : okEr 60 20 120 r x.1) : gJ E N b ks i kq Xe r j x s (mjF (d + 7) 323 [.ref 97, .int (nI (5000 * b + i))] (mjW0 s)) := by
  have J := S.1.1
  have hn := J.2.2.2.2.2.1
  have hb := J.b1
  have h60 := R.1.2.2.2
  have hl := R.1.2.2.1
  have lo := ok.2.2.2.2.2.1 hr
  obtain ⟨t2, t1, st, ej⟩ := lst2 (show 2 ≤ j.1.length by omega)
  have q1 := R.1.1
  have q2 := R.1.2.1
  rw [ej] at q1 q2 hl h60
  rw [List.length_cons, List.length_cons] at q1 hl h60
  have hj : jrow E r j = if (if r.2.2.1 = 257 ∨ r.2.2.1 = 258 then (t1.1 = 0 ↔ t2.1 = 0) else (t1.1 = 0 ∧ t2.1 = 0)) then some (jst j ((0, false) :: st) (0 :: (jRS j).drop 2), [(opr r.2.2.1, 0, r.2.1)]) else none := by
    unfold jrow
    rw [hr, if_neg (by decide), if_neg (by decide), if_neg (by decide), if_neg (by decide), if_neg (by decide), if_neg (by decide), if_neg (by decide), if_neg (by decide), if_pos rfl, ej]
  have hx : nxW r i x = ((x.1.1, x.1.2.1 - 1, x.1.2.2.1, x.1.2.2.2 - 1), x.2) := by
    rw [nxW_E ok.1]
    show (hxE r x.1, x.2) = _
    unfold hxE
    rw [hr, if_neg (by decide), if_neg (by decide), if_pos rfl]
  have ty1 := tyC_0 hn hb q2.2.1.2.2
  have ty2 := tyC_0 hn hb q2.1.2.2
  have pre : mjF (d + 7) 323 [.ref 97, .int (nI (5000 * b + i))] (mjW0 s) = bN (b_327_92 (mjF (d + 5)) 97 (nI (5000 * b + i)) (if (if r.2.2.1 = 257 ∨ r.2.2.1 = 258 then (t1.1 = 0 ↔ t2.1 = 0) else (t1.1 = 0 ∧ t2.1 = 0)) then 1 else 0) (mjW0 s)) (fun hp32 => some (none, hp32)) := by
    rw [e_323]
    unfold f_323 b_323_0
    rw [xg_97_54, wa_143 (by omega), row.1, hr, if_neg (by decide), if_neg (by decide), if_neg (by decide), if_neg (by decide), if_neg (by decide), if_neg (by decide), if_pos rfl, xV_97, e_327]
    unfold f_327 b_327_0 b_327_20 b_327_41 b_327_66 b_327_91
    rw [xg_97_79, xg_97_82, q1, nI_p2, wa_155 (by omega), show s.1 155 st.length = tyC b t1.1 from q2.2.1.1]
    have e2 : nI (st.length + 1 + 1) - 1 = nI (st.length + 1) := nI_pred _
    have h2 : s.1 155 (st.length + 1) = tyC b t2.1 := q2.1.1
    simp only [xg_97_79, xg_97_82, q1, e2, wa_155 (show st.length + 1 < 200 by omega), h2, xg_97_56, wa_145 (show 5000 * b + i < 10000 by omega), row.2.2.1, ty1, ty2]
    by_cases p1 : t1.1 = 0 <;> by_cases p2 : t2.1 = 0 <;> by_cases p7 : r.2.2.1 = 257 <;> by_cases p8 : r.2.2.1 = 258 <;> simp [p1, p2, p7, p8]
  have fin : ∀ z : mjSt3, z.1 97 82 = nI (st.length + 1 + 1) → TSs E.2.1 b z st → ∃ s', b_327_111 (mjF (d + 5)) 97 (mjW0 z) = some (none, mjW0 s') ∧ oQ st.length z s' ∧ TSs E.2.1 b s' ((0, false) :: st) ∧ s'.1 97 82 = nI (st.length + 1) ∧ s'.1 97 61 = z.1 97 61 := by
    intro z z1 z2
    obtain ⟨w, hw⟩ : ∃ w, w = uI z 97 (upd (z.1 97) 82 (nI st.length)) := ⟨_, rfl⟩
    have w7 : w.1 97 82 = nI st.length := by rw [hw, uI_same, upd_g, if_pos rfl]
    have ow : oQ st.length z w := by rw [hw]; exact oQ.w82
    obtain ⟨s1, a1, a2, a3, a4, a5⟩ := x_324 (d := d + 4) (n := st.length) (by omega) w7 (-1)
    refine ⟨s1, ?_, ow.tr (a2.Q2 (Nat.le_refl _)), ⟨⟨a3, a4, trivial⟩, TSs.keepQ hn z2 (ow.tr (a2.Q2 (Nat.le_refl _))) (Nat.le_refl _)⟩, a5, ?_⟩
    · unfold b_327_111
      rw [xg_97_82, z1, nI_p2, xp_97_82, ← hw, xV_97, a1, bN_s]
    · rw [a2.1 97 61 (by omega), hw, uI_same, upd_g, if_neg (by decide)]
  by_cases q : (if r.2.2.1 = 257 ∨ r.2.2.1 = 258 then (t1.1 = 0 ↔ t2.1 = 0) else (t1.1 = 0 ∧ t2.1 = 0))
  · rw [if_pos q] at hj
    obtain ⟨s1, a1, a2, a3, a4, a5⟩ := fin s q1 q2.2.2
    unfold b_327_92 at pre
    rw [if_pos q, if_neg (by decide), a1, bN_s] at pre
    refine gJ.ok hj S pre a2.V (by show s1.1 97 61 = 0; rw [a5]; exact g) ?_ ?_ (by rw [hr]; decide) (by rw [hr]; decide)
    · rw [hx]
      exact BR.mkT hn R a2 (st := (0, false) :: st) a3 a4 (by rw [List.length_cons]; omega) (by rw [List.length_cons]; omega)
    · rw [a2.r (by omega), row.2.2.1, nA_o (by rw [hr]; decide) (by rw [hr]; decide) (by rw [hr]; decide) (by rw [hr]; decide) (by rw [hr]; decide) (by rw [hr]; decide)]
  · rw [if_neg q] at hj
    obtain ⟨s1, a1, a2, a3⟩ := x_268 (d := d + 4) (s := s) (Or.inl g) (a := 7) (by decide) r.2.1
    obtain ⟨s2, b1, b2', b3, b4, b5⟩ := fin s1 (by rw [a2.1 97 82 (by omega)]; exact q1) (TSs.keepQ hn q2.2.2 (o61.Q2 (n := st.length) a2) (Nat.le_refl _))
    unfold b_327_92 at pre
    rw [if_neg q, if_pos rfl, xg_97_55, wa_144 (by omega), row.2.1, xV_97, a1, bN_s, b1, bN_s] at pre
    exact gJ.bad hj pre (offG.tr (o61.V a2) b2'.V) (by show ¬ s2.1 97 61 ≤ 0; rw [b5]; exact a3)
theorem j_1 (S : BS E.1 N b ks E.2.1 E.2.2.1 s) (g : gR0 s) (R : BR E.2.1 b s j x Xe) (row : Rw s (5000 * b + i) r) (hi : i < 5000) (hr : r.1 = 1 ∨ r.1 = 2 ∨ r.1 = 22 ∨ r.1 = 23) : gJ E N b ks i kq Xe r j x s (mjF (d + 7) 323 [.ref 97, .int (nI (5000 * b + i))] (mjW0 s)) := by
  have J := S.1.1
  have hn := J.2.2.2.2.2.1
  have hb := J.b1
  have hj : ∃ l, jrow E r j = some (j, l) := by
    unfold jrow
    rcases hr with hr | hr | hr | hr
    · exact ⟨_, by rw [hr, if_neg (by decide), if_neg (by decide), if_neg (by decide), if_neg (by decide), if_neg (by decide), if_neg (by decide), if_neg (by decide), if_neg (by decide), if_neg (by decide), if_neg (by decide), if_neg (by decide), if_neg (by decide), if_neg (by decide), if_neg (by decide), if_neg (by decide), if_neg (by decide), if_neg (by decide), if_neg (by decide), if_neg (by decide), if_neg (by decide), if_neg (by decide), if_neg (by decide), if_neg (by decide), if_neg (by decide), if_neg (by decide), if_pos rfl]⟩
    · exact ⟨_, by rw [hr, if_neg (by decide), if_neg (by decide), if_neg (by decide), if_neg (by decide), if_neg (by decide), if_neg (by decide), if_neg (by decide), if_neg (by decide), if_neg (by decide), if_neg (by decide), if_neg (by decide), if_neg (by decide), if_neg (by decide), if_neg (by decide), if_neg (by decide), if_neg (by decide), if_neg (by decide), if_neg (by decide), if_neg (by decide), if_neg (by decide), if_neg (by decide), if_neg (by decide), if_neg (by decide), if_neg (by decide), if_neg (by decide), if_neg (by decide), if_pos rfl]⟩
    · exact ⟨_, by rw [hr, if_neg (by decide), if_neg (by decide), if_neg (by decide), if_neg (by decide), if_neg (by decide), if_neg (by decide), if_neg (by decide), if_neg (by decide), if_neg (by decide), if_neg (by decide), if_neg (by decide), if_neg (by decide), if_neg (by decide), if_neg (by decide), if_neg (by decide), if_neg (by decide), if_neg (by decide), if_neg (by decide), if_neg (by decide), if_neg (by decide), if_neg (by decide), if_neg (by decide), if_neg (by decide), if_neg (by decide), if_neg (by decide), if_neg (by decide), if_neg (by decide), if_pos rfl]⟩
    · exact ⟨_, by rw [hr, if_neg (by decide), if_neg (by decide), if_neg (by decide), if_neg (by decide), if_neg (by decide), if_neg (by decide), if_neg (by decide), if_neg (by decide), if_neg (by decide), if_neg (by decide), if_neg (by decide), if_neg (by decide), if_neg (by decide), if_neg (by decide), if_neg (by decide), if_neg (by decide), if_neg (by decide), if_neg (by decide), if_neg (by decide), if_neg (by decide), if_neg (by decide), if_neg (by decide), if_neg (by decide), if_neg (by decide), if_neg (by decide), if_neg (by decide), if_neg (by decide), if_neg (by decide), if_pos rfl]⟩
  obtain ⟨l, hj⟩ := hj
  have pre : mjF (d + 7) 323 [.ref 97, .int (nI (5000 * b + i))] (mjW0 s) = some (none, mjW0 s) := by
    rw [e_323]
    unfold f_323 b_323_0 b_323_517
    rcases hr with hr | hr | hr | hr
    · rw [xg_97_54, wa_143 (by omega), row.1, hr, if_neg (by decide), if_neg (by decide), if_neg (by decide), if_neg (by decide), if_neg (by decide), if_neg (by decide), if_neg (by decide), if_neg (by decide), if_neg (by decide), if_neg (by decide), if_neg (by decide), if_neg (by decide), if_neg (by decide), if_neg (by decide), if_neg (by decide), if_neg (by decide), if_neg (by decide), if_neg (by decide), if_neg (by decide), if_neg (by decide), if_neg (by decide), if_neg (by decide), if_neg (by decide), if_neg (by decide), if_neg (by decide), if_neg (by decide), if_neg (by decide), if_neg (by decide), xV_97, e_335]
      unfold f_335 b_335_0
      rw [xg_97_54, wa_143 (by omega), row.1, hr, if_neg (by decide), if_neg (by decide), if_neg (by decide), if_neg (by decide), if_neg (by decide), if_neg (by decide), if_neg (by decide), if_neg (by decide), if_neg (by decide), if_neg (by decide), if_neg (by decide), if_neg (by decide), bN_s]
    · rw [xg_97_54, wa_143 (by omega), row.1, hr, if_neg (by decide), if_neg (by decide), if_neg (by decide), if_neg (by decide), if_neg (by decide), if_neg (by decide), if_neg (by decide), if_neg (by decide), if_neg (by decide), if_neg (by decide), if_neg (by decide), if_neg (by decide), if_neg (by decide), if_neg (by decide), if_neg (by decide), if_neg (by decide), if_neg (by decide), if_neg (by decide), if_neg (by decide), if_neg (by decide), if_neg (by decide), if_neg (by decide), if_neg (by decide), if_neg (by decide), if_neg (by decide), if_neg (by decide), if_neg (by decide), if_neg (by decide), xV_97, e_335]
      unfold f_335 b_335_0
      rw [xg_97_54, wa_143 (by omega), row.1, hr, if_neg (by decide), if_neg (by decide), if_neg (by decide), if_neg (by decide), if_neg (by decide), if_neg (by decide), if_neg (by decide), if_neg (by decide), if_neg (by decide), if_neg (by decide), if_neg (by decide), if_neg (by decide), bN_s]
    · rw [xg_97_54, wa_143 (by omega), row.1, hr, if_neg (by decide), if_neg (by decide), if_neg (by decide), if_neg (by decide), if_neg (by decide), if_neg (by decide), if_neg (by decide), if_neg (by decide), if_neg (by decide), if_neg (by decide), if_neg (by decide), if_neg (by decide), if_neg (by decide), if_neg (by decide), if_neg (by decide), if_neg (by decide), if_neg (by decide), if_neg (by decide), if_neg (by decide), if_pos rfl, xV_97, e_335]
      unfold f_335 b_335_0
      rw [xg_97_54, wa_143 (by omega), row.1, hr, if_neg (by decide), if_neg (by decide), if_neg (by decide), if_neg (by decide), if_neg (by decide), if_pos rfl, bN_s]
    · rw [xg_97_54, wa_143 (by omega), row.1, hr, if_neg (by decide), if_neg (by decide), if_neg (by decide), if_neg (by decide), if_neg (by decide), if_neg (by decide), if_neg (by decide), if_neg (by decide), if_neg (by decide), if_neg (by decide), if_neg (by decide), if_neg (by decide), if_neg (by decide), if_neg (by decide), if_neg (by decide), if_neg (by decide), if_neg (by decide), if_neg (by decide), if_neg (by decide), if_neg (by decide), if_pos rfl, xV_97, e_335]
      unfold f_335 b_335_0
      rw [xg_97_54, wa_143 (by omega), row.1, hr, if_neg (by decide), if_neg (by decide), if_neg (by decide), if_neg (by decide), if_neg (by decide), if_neg (by decide), if_pos rfl, bN_s]
  have h7 : ¬ r.1 = 7 ∧ ¬ r.1 = 14 ∧ ¬ r.1 = 6 ∧ ¬ r.1 = 15 ∧ ¬ r.1 = 10 ∧ ¬ r.1 = 16 ∧ ¬ r.1 = 17 ∧ ¬ r.1 = 18 := by rcases hr with h | h | h | h <;> · rw [h]; decide
  refine gJ.ok hj S pre offG.rf g (by rw [nx_same hr]; exact R) ?_ h7.1 h7.2.1
  rw [row.2.2.1, nA_o h7.2.2.1 h7.2.2.2.1 h7.2.2.2.2.1 h7.2.2.2.2.2.1 h7.2.2.2.2.2.2.1 h7.2.2.2.2.2.2.2]
theorem j_21 (S : BS E.1 N b ks E.2.1 E.2.2.1 s) (g : gR0 s) (R : BR E.2.1 b s j x Xe) (row : Rw s (5000 * b + i) r) (hi : i < 5000) (hr : r.1 = 21 ∨ r.1 = 24) (lo : 1 ≤ x.1.2.1) : gJ E N b ks i kq Xe r j x s (mjF (d + 7) 323 [.ref 97, .int (nI (5000 * b + i))] (mjW0 s)) := by
  have J := S.1.1
  have hn := J.2.2.2.2.2.1
  have hb := J.b1
  have h60 := R.1.2.2.2
  have hl := R.1.2.2.1
  obtain ⟨e, st, ej⟩ := lst1 (show 1 ≤ j.1.length by omega)
  have q1 := R.1.1
  have q2 := R.1.2.1
  rw [ej] at q1 q2 hl h60
  have q1' := q1
  have q2' := q2
  rw [List.length_cons] at q1 hl h60
  have ty := tyC_0 hn hb q2.1.2.2
  have hj : ∃ l, jrow E r j = if e.1 = 0 then some (jst j st ((jRS j).drop 1), l) else none := by
    unfold jrow
    rcases hr with hr | hr
    · exact ⟨_, by rw [hr, if_neg (by decide), if_neg (by decide), if_neg (by decide), if_neg (by decide), if_neg (by decide), if_neg (by decide), if_neg (by decide), if_neg (by decide), if_neg (by decide), if_neg (by decide), if_neg (by decide), if_neg (by decide), if_neg (by decide), if_neg (by decide), if_neg (by decide), if_neg (by decide), if_neg (by decide), if_neg (by decide), if_neg (by decide), if_pos rfl, ej]⟩
    · exact ⟨_, by rw [hr, if_neg (by decide), if_neg (by decide), if_neg (by decide), if_neg (by decide), if_neg (by decide), if_neg (by decide), if_neg (by decide), if_neg (by decide), if_neg (by decide), if_neg (by decide), if_neg (by decide), if_neg (by decide), if_neg (by decide), if_neg (by decide), if_neg (by decide), if_neg (by decide), if_neg (by decide), if_neg (by decide), if_neg (by decide), if_neg (by decide), if_pos rfl, ej]⟩
  obtain ⟨l, hj⟩ := hj
  have pre : mjF (d + 7) 323 [.ref 97, .int (nI (5000 * b + i))] (mjW0 s) = bN (b_335_321 (mjF (d + 5)) 97 (nI (5000 * b + i)) (mjW0 s)) (fun hp1 => some (none, hp1)) := by
    rw [e_323]
    unfold f_323 b_323_0 b_323_517
    rcases hr with hr | hr
    · rw [xg_97_54, wa_143 (by omega), row.1, hr, if_neg (by decide), if_neg (by decide), if_neg (by decide), if_neg (by decide), if_neg (by decide), if_neg (by decide), if_neg (by decide), if_neg (by decide), if_neg (by decide), if_neg (by decide), if_neg (by decide), if_neg (by decide), if_neg (by decide), if_neg (by decide), if_neg (by decide), if_neg (by decide), if_neg (by decide), if_neg (by decide), if_pos rfl, xV_97, e_335]
      unfold f_335 b_335_0
      rw [xg_97_54, wa_143 (by omega), row.1, hr, if_neg (by decide), if_neg (by decide), if_neg (by decide), if_neg (by decide), if_pos rfl]
    · rw [xg_97_54, wa_143 (by omega), row.1, hr, if_neg (by decide), if_neg (by decide), if_neg (by decide), if_neg (by decide), if_neg (by decide), if_neg (by decide), if_neg (by decide), if_neg (by decide), if_neg (by decide), if_neg (by decide), if_neg (by decide), if_neg (by decide), if_neg (by decide), if_neg (by decide), if_neg (by decide), if_neg (by decide), if_neg (by decide), if_neg (by decide), if_neg (by decide), if_neg (by decide), if_neg (by decide), if_pos rfl, xV_97, e_335]
      unfold f_335 b_335_0
      rw [xg_97_54, wa_143 (by omega), row.1, hr, if_neg (by decide), if_neg (by decide), if_neg (by decide), if_neg (by decide), if_neg (by decide), if_neg (by decide), if_neg (by decide), if_pos rfl]
  have h7 : ¬ r.1 = 7 ∧ ¬ r.1 = 14 ∧ ¬ r.1 = 6 ∧ ¬ r.1 = 15 ∧ ¬ r.1 = 10 ∧ ¬ r.1 = 16 ∧ ¬ r.1 = 17 ∧ ¬ r.1 = 18 := by rcases hr with h | h <;> · rw [h]; decide
  have hx : nxW r i x = ((x.1.1, x.1.2.1 - 1, x.1.2.2.1, x.1.2.2.2 - 1), x.2) := nx_pop (by rcases hr with h | h <;> · rw [h]; decide) _ _
  unfold b_335_321 b_335_348 at pre
  rw [xg_97_79, xg_97_82, q1, nI_pred, wa_155 (by omega), q2.1.1] at pre
  by_cases q : e.1 = 0
  · rw [if_pos q] at hj
    obtain ⟨s1, h1, o1, t1, w1, g1⟩ := less hn q1' q2'
    rw [if_pos (ty.mpr q), xg_97_82, q1, nI_pred, xp_97_82, ← h1, bN_s] at pre
    refine gJ.ok hj S pre o1.V (by show s1.1 97 61 = 0; rw [g1]; exact g) ?_ ?_ h7.1 h7.2.1
    · rw [hx]
      exact BR.mkT hn R o1 t1 w1 (by omega) (by omega)
    · rw [o1.r (by omega), row.2.2.1, nA_o h7.2.2.1 h7.2.2.2.1 h7.2.2.2.2.1 h7.2.2.2.2.2.1 h7.2.2.2.2.2.2.1 h7.2.2.2.2.2.2.2]
  · rw [if_neg q] at hj
    obtain ⟨s1, a1, a2, a3⟩ := x_268 (d := d + 4) (s := s) (Or.inl g) (a := 7) (by decide) r.2.1
    have q1s : s1.1 97 82 = nI (e :: st).length := by rw [a2.1 97 82 (by omega)]; exact q1'
    obtain ⟨s2, h2, o2, t2, w2, g2⟩ := less hn q1s (TSs.keepQ hn q2' (o61.Q2 (n := (e :: st).length) a2) (Nat.le_refl _))
    rw [if_neg (fun h => q (ty.mp h)), xg_97_55, wa_144 (by omega), row.2.1, xV_97, a1, bN_s, xg_97_82, q1s, List.length_cons, nI_pred, xp_97_82, ← h2, bN_s] at pre
    exact gJ.bad hj pre (offG.tr (o61.V a2) o2.V) (by show ¬ s2.1 97 61 ≤ 0; rw [g2]; exact a3)
theorem j_25 (S : BS E.1 N b ks E.2.1 E.2.2.1 s) (g : gR0 s) (R : BR E.2.1 b s j x Xe) (row : Rw s (5000 * b + i) r) (hi : i < 5000) (hr : r.1 = 25) (lo : 1 ≤ x.1.2.1) : gJ E N b ks i kq Xe r j x s (mjF (d + 7) 323 [.ref 97, .int (nI (5000 * b + i))] (mjW0 s)) := by
  have J := S.1.1
  have hn := J.2.2.2.2.2.1
  have hb := J.b1
  have h60 := R.1.2.2.2
  have hl := R.1.2.2.1
  obtain ⟨e, st, ej⟩ := lst1 (show 1 ≤ j.1.length by omega)
  have q1 := R.1.1
  have q2 := R.1.2.1
  rw [ej] at q1 q2 hl h60
  obtain ⟨s1, h1, o1, t1, w1, g1⟩ := less hn q1 q2
  rw [List.length_cons] at q1 hl h60
  have hj : jrow E r j = some (jst j st ((jRS j).drop 1), [(5, 0, -1)]) := by
    unfold jrow
    rw [hr, if_neg (by decide), if_neg (by decide), if_neg (by decide), if_neg (by decide), if_neg (by decide), if_neg (by decide), if_neg (by decide), if_neg (by decide), if_neg (by decide), if_neg (by decide), if_neg (by decide), if_neg (by decide), if_neg (by decide), if_neg (by decide), if_neg (by decide), if_neg (by decide), if_neg (by decide), if_neg (by decide), if_neg (by decide), if_neg (by decide), if_neg (by decide), if_neg (by decide), if_pos rfl, ej]
  have pre : mjF (d + 7) 323 [.ref 97, .int (nI (5000 * b + i))] (mjW0 s) = some (none, mjW0 s1) := by
    rw [e_323]
    unfold f_323 b_323_0 b_323_517
    rw [xg_97_54, wa_143 (by omega), row.1, hr, if_neg (by decide), if_neg (by decide), if_neg (by decide), if_neg (by decide), if_neg (by decide), if_neg (by decide), if_neg (by decide), if_neg (by decide), if_neg (by decide), if_neg (by decide), if_neg (by decide), if_neg (by decide), if_neg (by decide), if_neg (by decide), if_neg (by decide), if_neg (by decide), if_neg (by decide), if_neg (by decide), if_neg (by decide), if_neg (by decide), if_neg (by decide), if_neg (by decide), if_pos rfl, xV_97, e_335]
    unfold f_335 b_335_0
    rw [xg_97_54, wa_143 (by omega), row.1, hr, if_neg (by decide), if_neg (by decide), if_neg (by decide), if_neg (by decide), if_neg (by decide), if_neg (by decide), if_neg (by decide), if_neg (by decide), if_pos rfl, xg_97_82, q1, nI_pred, xp_97_82, ← h1, bN_s]
  have hx : nxW r i x = ((x.1.1, x.1.2.1 - 1, x.1.2.2.1, x.1.2.2.2 - 1), x.2) := nx_pop (by rw [hr]; decide) _ _
  refine gJ.ok hj S pre o1.V (by show s1.1 97 61 = 0; rw [g1]; exact g) ?_ ?_ (by rw [hr]; decide) (by rw [hr]; decide)
  · rw [hx]
    exact BR.mkT hn R o1 t1 w1 (by omega) (by omega)
  · rw [o1.r (by omega), row.2.2.1, nA_o (by rw [hr]; decide) (by rw [hr]; decide) (by rw [hr]; decide) (by rw [hr]; decide) (by rw [hr]; decide) (by rw [hr]; decide)]
end MJB00
