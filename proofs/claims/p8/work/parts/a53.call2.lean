/-! ===== the Coder: codeAll, from its beginning ===== -/
section MJA53
variable {N q D : Nat} {s : mjSt3}
theorem updR_e (f : Nat → Nat) (a v b : Nat) : updR f a v b = if b = a then v else f b := rfl
theorem x_4 (hq : isP q) : ∃ s', mjF (D + 2) 4 [.ref 75, .ref q] (mjW0 s) = L_4_23 (mjF (D + 1)) mjN 75 (nI 0) (mjW0 s') ∧ s'.1 = s.1 ∧ s'.2.1 = s.2.1 ∧ s'.2.2 75 3 = q ∧ s'.2.2 75 4 = q + 14 ∧ s'.2.2 75 5 = q + 24 ∧ (∀ h j, ¬ (h = 75 ∧ 3 ≤ j ∧ j ≤ 5) → s'.2.2 h j = s.2.2 h j) := by
  obtain ⟨z1, h1⟩ : ∃ z, z = uR s 75 (updR (s.2.2 75) 3 q) := ⟨_, rfl⟩
  obtain ⟨z2, h2⟩ : ∃ z, z = uR z1 75 (updR (z1.2.2 75) 4 (q + 14)) := ⟨_, rfl⟩
  obtain ⟨z3, h3⟩ : ∃ z, z = uR z2 75 (updR (z2.2.2 75) 5 (q + 24)) := ⟨_, rfl⟩
  have g : ∀ j, z3.2.2 75 j = if j = 5 then q + 24 else if j = 4 then q + 14 else if j = 3 then q else s.2.2 75 j := fun j => by
    rw [h3, uR_same, updR_e, h2, uR_same, updR_e, h1, uR_same, updR_e]
  refine ⟨z3, ?_, by rw [h3, h2, h1]; rfl, by rw [h3, h2, h1]; rfl, by rw [g]; rfl, by rw [g]; rfl, by rw [g]; rfl, fun h j hj => ?_⟩
  · rw [e_4]
    unfold f_4 b_4_0
    rw [xp_75_3, ← h1, yg_14 hq, xp_75_4, ← h2, yg_15 hq, xp_75_5, ← h3]
    rfl
  · by_cases e : h = 75
    · subst e
      rw [g, if_neg (by omega), if_neg (by omega), if_neg (by omega)]
    · rw [h3, uR_ne _ _ _ _ e, h2, uR_ne _ _ _ _ e, h1, uR_ne _ _ _ _ e]
end MJA53
