/-! ===== LEFT = E ;, and every STATEMENT's orders ===== -/
section MJA92
variable {T : TT} {M : Nat}
/-- the orders ahead of =, its last one turned: what it leaves -/
theorem left_gd {c kq i td lx D : Nat} {v : PZ} (gv : gdE T c kq 40 12 112 v) (h1 : v.2.1 = 1 → v.2.2.1 = [] ∧ ∃ r : Row, v.2.2.2.1 = [r]) (h2 : sh2 v) (hs : v.2.1 = 1 ∨ v.2.1 = 2) : (oLeft v.2.1 v.2.2.2.1).length = v.2.2.2.1.length ∧ 1 ≤ v.2.2.2.1.length ∧ sdW (oLeft v.2.1 v.2.2.2.1) i ((kq, 0, [], 0), td, lx, false, D) ∧ fdW (oLeft v.2.1 v.2.2.2.1) i ((kq, 0, [], 0), td, lx, false, D) = ((kq + v.2.2.1.length, 1, [], if v.2.1 = 1 then 0 else 1), td, i + v.2.2.2.1.length - 1, false, D) := by
  rcases hs with s1 | s2
  · obtain ⟨ek, r, er⟩ := h1 s1
    rw [s1, er, ek, if_pos rfl]
    have e : oLeft 1 [r] = [(15, r.2)] := rfl
    rw [e]
    refine ⟨rfl, Nat.le_refl _, ⟨okW.l rfl (by show 0 ≤ 50; omega), trivial⟩, ?_⟩
    show ((kq, 0 + 1, [], 0), td, i, false, D) = ((kq + 0, 1, [], 0), td, i + 1 - 1, false, D)
    rw [Nat.add_sub_cancel]
    rfl
  · obtain ⟨b, r, er, e10⟩ := h2 s2
    have n1 : ¬ v.2.1 = 1 := by rw [s2]; decide
    have hx : ∀ x, hxE r x = x := by
      intro x
      unfold hxE
      rw [e10, if_neg (by decide), if_neg (by decide), if_neg (by decide), if_neg (by decide), if_neg (by decide), if_neg (by decide), if_neg (by decide)]
    obtain ⟨a, f⟩ := gv.2 0 [] 0 60 20 120 (by omega) (by show 0 + 12 ≤ 20; omega) (by omega)
    rw [er, scE_app] at a
    rw [er, fdE_app] at f
    have f' : fdE b (kq, 0, [], 0) = (kq + v.2.2.1.length, 0 + 1, [], 0 + 1) := by
      have := f
      change hxE r (fdE b (kq, 0, [], 0)) = _ at this
      rw [hx] at this
      exact this
    obtain ⟨a2, f2⟩ := sc_EW b i (kq, 0, [], 0) (td, lx, false, D) a.1
    have e : oLeft v.2.1 (b ++ [r]) = b ++ [(16, r.2)] := by
      unfold oLeft oLast
      rw [if_neg n1, List.dropLast_concat, List.getLastD_concat]
    rw [if_neg n1, er, e]
    refine ⟨by rw [List.length_append, List.length_append]; rfl, by rw [List.length_append]; show 1 ≤ b.length + 1; omega, ?_, ?_⟩
    · rw [sdW_app]
      rw [f2, f']
      exact ⟨a2, okW.f rfl (Nat.le_refl _) (Nat.le_refl _), trivial⟩
    · rw [fdW_app, f2, f']
      show nxW (16, r.2) (i + b.length) _ = _
      have n16 : ∀ j x, nxW (16, r.2) j x = (x.1, x.2.1, j, x.2.2.2) := fun j x => rfl
      rw [n16, List.length_append]
      show ((kq + v.2.2.1.length, 0 + 1, [], 0 + 1), td, i + b.length, false, D) = ((kq + v.2.2.1.length, 1, [], 1), td, i + (b.length + 1) - 1, false, D)
      rw [show i + (b.length + 1) - 1 = i + b.length by omega]
theorem pUse_gd {o c td kq i0 : Nat} {y : PB} (ho : o ≤ 12) (ht : td ≤ 16) (h : pUse T M o c td kq i0 = .inr y) : y.2.1 ≤ 16 ∧ gdS T c td kq i0 y := by
  unfold pUse at h
  cases hv : prV T M o c kq with
  | inl e => rw [hv] at h; cases h
  | inr v =>
    rw [hv] at h
    dsimp only at h
    have gv := prV_gd ho hv
    have lv := (prV_ln hv).1
    by_cases g : (T v.1).1 = 61 ∧ (v.2.1 = 1 ∨ v.2.1 = 2)
    · rw [if_pos g] at h
      cases hv2 : prV T M o (v.1 + 1) (kq + v.2.2.1.length) with
      | inl e => rw [hv2] at h; cases h
      | inr w =>
        rw [hv2] at h
        dsimp only at h
        have gw := prV_gd ho hv2
        have lw := (prV_ln hv2).1
        by_cases g2 : (T w.1).1 = 59
        · rw [if_pos g2] at h
          have s1 : v.2.1 = 1 → v.2.2.1 = [] ∧ ∃ r : Row, v.2.2.2.1 = [r] := fun e => by
            obtain ⟨_, ey⟩ := prE_s1 100 0 o c kq v (by omega) hv e
            rw [ey]
            exact ⟨rfl, _, rfl⟩
          have s2 := prE_s2 100 0 o c kq v (by omega) hv
          cases h
          refine ⟨ht, gdS.line (Or.inl rfl) (ag := []) ⟨?_, fun hb lx D => ?_⟩⟩
          · exact (gv.1.mono (Nat.le_refl _) (by show v.1 ≤ w.1 + 1; omega)).app (gw.1.mono (by omega) (by show w.1 ≤ w.1 + 1; omega))
          · obtain ⟨l1, l2, l3, l4⟩ := left_gd (i := i0 + 1) (td := td) (lx := lx) (D := D) gv s1 s2 g.2
            have q2 : (if v.2.1 = 1 then 0 else 1) ≤ 2 := by by_cases q : v.2.1 = 1 <;> simp only [q, if_true, if_false] <;> omega
            obtain ⟨w1, w2⟩ := gw.W (i := i0 + 1 + v.2.2.2.1.length) (h := 1) (p := []) (q := if v.2.1 = 1 then 0 else 1) (by omega) (Nat.zero_le _) q2 (td, i0 + 1 + v.2.2.2.1.length - 1, false, D)
            have e1 : i0 + 1 + v.2.2.2.1.length - 1 = i0 + v.2.2.2.1.length := by omega
            refine ⟨i0 + v.2.2.2.1.length, ?_, ?_⟩
            · show sdW (oLeft v.2.1 v.2.2.2.1 ++ w.2.2.2.1 ++ [_]) (i0 + 1) _
              rw [sdW_app, sdW_app, fdW_app, l4, l1, w2]
              refine ⟨⟨l3, w1⟩, okW.p ?_ (Nat.le_refl _) ?_, trivial⟩
              · by_cases q : v.2.1 = 1
                · exact Or.inl ⟨if_pos q, by rw [if_pos q]; exact Nat.le_refl _⟩
                · exact Or.inr ⟨if_neg q, by rw [if_neg q]; exact Nat.le_refl _⟩
              · show nI (i0 + v.2.2.2.1.length) = nI (i0 + 1 + v.2.2.2.1.length - 1)
                rw [e1]
            · show fdW (oLeft v.2.1 v.2.2.2.1 ++ w.2.2.2.1 ++ [_]) (i0 + 1) _ = _
              rw [fdW_app, fdW_app, l4, l1, w2]
              show nxW _ _ _ = _
              by_cases q : v.2.1 = 1
              · simp only [if_pos q]
                show ((kq + v.2.2.1.length + w.2.2.1.length, 1 + 1 - 2, [], 0 + 1 - 1), td, i0 + 1 + v.2.2.2.1.length - 1, false, D) = ((kq + (v.2.2.1 ++ w.2.2.1).length, 0, [], 0), td, i0 + v.2.2.2.1.length, false, D)
                rw [e1, List.length_append, Nat.add_assoc kq]
              · simp only [if_neg q]
                show ((kq + v.2.2.1.length + w.2.2.1.length, 1 + 1 - 2, [], 1 + 1 - 2), td, i0 + 1 + v.2.2.2.1.length - 1, false, D) = ((kq + (v.2.2.1 ++ w.2.2.1).length, 0, [], 0), td, i0 + v.2.2.2.1.length, false, D)
                rw [e1, List.length_append, Nat.add_assoc kq]
        · rw [if_neg g2] at h; cases h
    · rw [if_neg g] at h
      by_cases g2 : (T v.1).1 = 59 ∧ v.2.1 = 3
      · rw [if_pos g2] at h
        cases h
        exact ⟨ht, gdS.line (Or.inl rfl) (ag := []) (gdS.pop gv (Or.inr (Or.inr (Or.inr rfl))) (fun x => absurd (show (25 : Int32) = 28 from x) (by decide)) (by omega))⟩
      · rw [if_neg g2] at h; cases h
/-- EVERY STATEMENT -/
theorem prS_gd : ∀ (f tag o c td kq i0 : Nat) (y : PB), tag ≤ 1 → o ≤ 12 → td ≤ 16 → prS T M f tag o c td kq i0 = .inr y → y.2.1 ≤ 16 ∧ gdS T c td kq i0 y
  | 0, _, _, _, _, _, _, _, _, _, _, h => by cases h
  | f + 1, 0, o, c, td, kq, i0, y, _, ho, ht, h => by
    rw [prS_0] at h
    unfold pBlk at h
    by_cases a : (T c).1 = 123
    · rw [if_pos a] at h
      by_cases b : o = 12
      · rw [if_pos b] at h; cases h
      rw [if_neg b] at h
      cases hd : pSeq T (prS T M f 1 (o + 1)) kq i0 M (c + 1, td, [], [(26, (T (c + 1)).2.1, 0, 0, 0)], []) with
      | inl e => rw [hd] at h; cases h
      | inr z =>
        rw [hd] at h
        dsimp only at h
        have g0 : gdQ T 1 c td kq i0 (c + 1, td, [], [(26, (T (c + 1)).2.1, 0, 0, 0)], []) := ⟨kdR.nil, fun _ lx D => ⟨lx, ⟨okW.b rfl rfl, trivial⟩, rfl⟩⟩
        obtain ⟨a1, a2, a3⟩ := pSeq_gd (c := c) (fun c td kq i0 x ht hx => ⟨(prS_ln f 1 (o + 1) c td kq i0 x (by omega) hx).1, prS_gd f 1 (o + 1) c td kq i0 x (by omega) (by omega) ht hx⟩) _ _ _ (by show c ≤ c + 1; omega) ht g0 hd
        by_cases g : (T z.1).1 = 125
        · rw [if_pos g] at h
          cases h
          refine ⟨a2, a3.1.mono (Nat.le_refl _) (by show z.1 ≤ z.1 + 1; omega), fun hb lx D => ?_⟩
          obtain ⟨l1, b1, b2⟩ := a3.2 hb lx D
          refine ⟨l1, ?_, ?_⟩
          · show sdW (z.2.2.2.1 ++ [_]) i0 _
            rw [sdW_app, b2]
            exact ⟨b1, okW.c rfl rfl (by show 1 ≤ D + 1; omega), trivial⟩
          · show fdW (z.2.2.2.1 ++ [_]) i0 _ = _
            rw [fdW_app, b2]
            rfl
        · rw [if_neg g] at h; cases h
    · rw [if_neg a] at h; cases h
  | f + 1, 1, o, c, td, kq, i0, y, _, ho, ht, h => by
    rw [prS_1] at h
    have bl : ∀ c td kq i0 x, td ≤ 16 → prS T M f 0 o c td kq i0 = .inr x → c < x.1 ∧ x.2.1 ≤ 16 ∧ gdS T c td kq i0 x := fun c td kq i0 x ht hx => ⟨(prS_ln f 0 o c td kq i0 x (by omega) hx).1, prS_gd f 0 o c td kq i0 x (by omega) ho ht hx⟩
    by_cases e1 : (T c).1 = 2 ∨ (T c).1 = 10
    · rw [if_pos e1] at h; exact pDecl_gd ho ht h
    rw [if_neg e1] at h
    by_cases e15 : (T c).1 = 15
    · rw [if_pos e15] at h; exact pIf_gd ho ht bl h
    rw [if_neg e15] at h
    by_cases e17 : (T c).1 = 17
    · rw [if_pos e17] at h; exact pWhile_gd ho ht bl h
    rw [if_neg e17] at h
    by_cases e18 : (T c).1 = 18
    · rw [if_pos e18] at h; exact pGive_gd ho ht (Or.inl rfl) h
    rw [if_neg e18] at h
    by_cases e19 : (T c).1 = 19
    · rw [if_pos e19] at h; exact pGive_gd ho ht (Or.inr rfl) h
    rw [if_neg e19] at h
    by_cases e123 : (T c).1 = 123
    · rw [if_pos e123] at h
      exact prS_gd f 0 o c td kq i0 y (by omega) ho ht h
    rw [if_neg e123] at h
    exact pUse_gd ho ht h
  | f + 1, t + 2, o, c, td, kq, i0, y, ht, _, _, h => by omega
end MJA92
