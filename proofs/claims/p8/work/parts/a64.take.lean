/-! ===== takeSpare; the end of load ===== -/
/-- a new PROGRAM is taken -/
def TKS (s s' : mjSt3) : Prop := (s'.2.2 0 6 = s.2.2 0 7 ∧ s'.2.2 0 7 = s.2.2 0 6 ∧ ∀ h j, ¬ (h = 0 ∧ (j = 6 ∨ j = 7)) → s'.2.2 h j = s.2.2 h j) ∧ s'.2.1 = s.2.1 ∧ s'.1 0 8 = 1 ∧ (∀ j, j = 6 ∨ j = 8 ∨ j = 9 ∨ j = 10 ∨ j = 12 ∨ j = 13 → s'.1 82 j = 0) ∧ s'.1 82 11 = -1 ∧ (s'.1 83 0 = 0 ∧ s'.1 83 1 = 0) ∧ (s'.1 79 2 = 0 ∧ s'.1 79 3 = 0 ∧ s'.1 79 4 = 0) ∧ s'.1 91 5 = 0 ∧ ∀ h j, ¬ ((h = 0 ∧ j = 8) ∨ (h = 82 ∧ 6 ≤ j ∧ j ≤ 13) ∨ (h = 83 ∧ j ≤ 1) ∨ (h = 79 ∧ 2 ≤ j ∧ j ≤ 4) ∨ (h = 91 ∧ j = 5)) → s'.1 h j = s.1 h j
section MJA64
variable {d : Nat} {s : mjSt3}
theorem x_42 (v : Int32) : ∃ s', mjF (d + 1) 42 [.ref 79, .int v] (mjW0 s) = some (none, mjW0 s') ∧ s'.1 79 2 = 0 ∧ s'.1 79 3 = 0 ∧ s'.1 79 4 = v ∧ (∀ h j, ¬ (h = 79 ∧ 2 ≤ j ∧ j ≤ 4) → s'.1 h j = s.1 h j) ∧ s'.2 = s.2 := by
  obtain ⟨z1, h1⟩ : ∃ z, z = uI s 79 (upd (s.1 79) 2 0) := ⟨_, rfl⟩
  obtain ⟨z2, h2⟩ : ∃ z, z = uI z1 79 (upd (z1.1 79) 3 0) := ⟨_, rfl⟩
  obtain ⟨z3, h3⟩ : ∃ z, z = uI z2 79 (upd (z2.1 79) 4 v) := ⟨_, rfl⟩
  have g : ∀ j, z3.1 79 j = if j = 4 then v else if j = 3 then 0 else if j = 2 then 0 else s.1 79 j := fun j => by
    rw [h3, uI_same, upd_g, h2, uI_same, upd_g, h1, uI_same, upd_g]
  refine ⟨z3, ?_, by rw [g]; rfl, by rw [g]; rfl, by rw [g]; rfl, fun h j hj => ?_, by rw [h3, h2, h1]; rfl⟩
  · rw [e_42]
    unfold f_42 b_42_0
    rw [xp_79_2, ← h1, xp_79_3, ← h2, xp_79_4, ← h3]
  · by_cases e : h = 79
    · subst e
      rw [g, if_neg (by omega), if_neg (by omega), if_neg (by omega)]
    · rw [h3, uI_ne _ _ _ _ e, h2, uI_ne _ _ _ _ e, h1, uI_ne _ _ _ _ e]
/-- Machine.drop -/
theorem x_73 : ∃ s', mjF (d + 2) 73 [.ref 82] (mjW0 s) = some (none, mjW0 s') ∧ (∀ j, j = 6 ∨ j = 8 ∨ j = 9 ∨ j = 10 ∨ j = 12 ∨ j = 13 → s'.1 82 j = 0) ∧ s'.1 82 11 = -1 ∧ (s'.1 83 0 = 0 ∧ s'.1 83 1 = 0) ∧ (s'.1 79 2 = 0 ∧ s'.1 79 3 = 0 ∧ s'.1 79 4 = 0) ∧ (∀ h j, ¬ ((h = 82 ∧ 6 ≤ j ∧ j ≤ 13 ∧ ¬ j = 7) ∨ (h = 83 ∧ j ≤ 1) ∨ (h = 79 ∧ 2 ≤ j ∧ j ≤ 4)) → s'.1 h j = s.1 h j) ∧ s'.2 = s.2 := by
  obtain ⟨z1, h1⟩ : ∃ z, z = uI s 82 (upd (s.1 82) 8 0) := ⟨_, rfl⟩
  obtain ⟨z2, h2⟩ : ∃ z, z = uI z1 82 (upd (z1.1 82) 9 0) := ⟨_, rfl⟩
  obtain ⟨z3, h3⟩ : ∃ z, z = uI z2 82 (upd (z2.1 82) 10 0) := ⟨_, rfl⟩
  obtain ⟨z4, h4⟩ : ∃ z, z = uI z3 82 (upd (z3.1 82) 11 (-1)) := ⟨_, rfl⟩
  obtain ⟨z5, h5⟩ : ∃ z, z = uI z4 82 (upd (z4.1 82) 12 0) := ⟨_, rfl⟩
  obtain ⟨z6, h6⟩ : ∃ z, z = uI z5 82 (upd (z5.1 82) 13 0) := ⟨_, rfl⟩
  obtain ⟨z7, h7⟩ : ∃ z, z = uI z6 82 (upd (z6.1 82) 6 0) := ⟨_, rfl⟩
  obtain ⟨z8, h8⟩ : ∃ z, z = uI z7 83 (upd (z7.1 83) 0 0) := ⟨_, rfl⟩
  obtain ⟨z9, h9⟩ : ∃ z, z = uI z8 83 (upd (z8.1 83) 1 0) := ⟨_, rfl⟩
  obtain ⟨s', a1, a2, a3, a4, a5, a6⟩ := x_42 (d := d) (s := z9) 0
  have g82 : ∀ j, s'.1 82 j = if j = 6 then 0 else if j = 13 then 0 else if j = 12 then 0 else if j = 11 then -1 else if j = 10 then 0 else if j = 9 then 0 else if j = 8 then 0 else s.1 82 j := fun j => by
    rw [a5 82 j (by omega), h9, uI_ne _ _ _ _ (by decide), h8, uI_ne _ _ _ _ (by decide), h7, uI_same, upd_g, h6, uI_same, upd_g, h5, uI_same, upd_g, h4, uI_same, upd_g, h3, uI_same, upd_g, h2, uI_same, upd_g, h1, uI_same, upd_g]
  have g83 : ∀ j, s'.1 83 j = if j = 1 then 0 else if j = 0 then 0 else s.1 83 j := fun j => by
    rw [a5 83 j (by omega), h9, uI_same, upd_g, h8, uI_same, upd_g, h7, uI_ne _ _ _ _ (by decide), h6, uI_ne _ _ _ _ (by decide), h5, uI_ne _ _ _ _ (by decide), h4, uI_ne _ _ _ _ (by decide), h3, uI_ne _ _ _ _ (by decide), h2, uI_ne _ _ _ _ (by decide), h1, uI_ne _ _ _ _ (by decide)]
  have go : ∀ h, ¬ h = 82 → ¬ h = 83 → z9.1 h = s.1 h := fun h e1 e2 => by
    rw [h9, uI_ne _ _ _ _ e2, h8, uI_ne _ _ _ _ e2, h7, uI_ne _ _ _ _ e1, h6, uI_ne _ _ _ _ e1, h5, uI_ne _ _ _ _ e1, h4, uI_ne _ _ _ _ e1, h3, uI_ne _ _ _ _ e1, h2, uI_ne _ _ _ _ e1, h1, uI_ne _ _ _ _ e1]
  refine ⟨s', ?_, fun j hj => ?_, by rw [g82]; rfl, ⟨by rw [g83]; rfl, by rw [g83]; rfl⟩, ⟨a2, a3, a4⟩, fun h j hj => ?_, by rw [a6, h9, h8, h7, h6, h5, h4, h3, h2, h1]; rfl⟩
  · rw [e_73]
    unfold f_73 b_73_0
    rw [xp_82_8, ← h1, xp_82_9, ← h2, xp_82_10, ← h3, xp_82_11, ← h4, xp_82_12, ← h5, xp_82_13, ← h6, xp_82_6, ← h7, xg_82_1, xV_83, e_36]
    unfold f_36 b_36_0
    rw [xp_83_0, ← h8, bN_s, xg_82_1, xp_83_1, ← h9, xg_82_0, xV_79, a1, bN_s]
  · rw [g82]
    rcases hj with rfl | rfl | rfl | rfl | rfl | rfl <;> rfl
  · by_cases e1 : h = 82
    · subst e1
      rw [g82, if_neg (by omega), if_neg (by omega), if_neg (by omega), if_neg (by omega), if_neg (by omega), if_neg (by omega), if_neg (by omega)]
    · by_cases e2 : h = 83
      · subst e2
        rw [g83, if_neg (by omega), if_neg (by omega)]
      · rw [a5 h j (by omega), go h e1 e2]
/-- takeSpare -/
theorem x_205 : ∃ s', mjF (d + 3) 205 [.ref 0] (mjW0 s) = some (none, mjW0 s') ∧ TKS s s' := by
  obtain ⟨z1, h1⟩ : ∃ z, z = uR s 0 (updR (s.2.2 0) 6 (s.2.2 0 7)) := ⟨_, rfl⟩
  obtain ⟨z2, h2⟩ : ∃ z, z = uR z1 0 (updR (z1.2.2 0) 7 (s.2.2 0 6)) := ⟨_, rfl⟩
  obtain ⟨z3, h3⟩ : ∃ z, z = uI z2 0 (upd (z2.1 0) 8 1) := ⟨_, rfl⟩
  obtain ⟨z4, a1, a2, a3, a4, a5, a6, a7⟩ := x_73 (d := d) (s := z3)
  obtain ⟨z5, h5⟩ : ∃ z, z = uI z4 91 (upd (z4.1 91) 5 0) := ⟨_, rfl⟩
  have r : ∀ j, z5.2.2 0 j = if j = 7 then s.2.2 0 6 else if j = 6 then s.2.2 0 7 else s.2.2 0 j := fun j => by
    have e : z5.2 = z2.2 := by rw [h5]; exact a7.trans (by rw [h3]; rfl)
    rw [e, h2, uR_same, updR_e, h1, uR_same, updR_e]
  have e1 : z3.1 = (uI s 0 (upd (s.1 0) 8 1)).1 := by rw [h3, h2, h1]; rfl
  refine ⟨z5, ?_, ⟨by rw [r]; rfl, by rw [r]; rfl, fun h j hj => ?_⟩, ?_, ?_, fun j hj => ?_, ?_, ⟨?_, ?_⟩, ⟨?_, ?_, ?_⟩, by rw [h5, uI_same]; rfl, fun h j hj => ?_⟩
  · rw [e_205]
    unfold f_205 b_205_0
    rw [xg_0_6, xg_0_7, xp_0_6, ← h1, xp_0_7, ← h2, xp_0_8 rfl, ← h3, xg_0_12, xV_82, a1, bN_s, xg_0_13, xV_91, e_183]
    unfold f_183 b_183_0
    rw [xp_91_5 rfl, ← h5, bN_s]
  · by_cases e : h = 0
    · subst e
      rw [r, if_neg (by omega), if_neg (by omega)]
    · have e2 : z5.2 = z2.2 := by rw [h5]; exact a7.trans (by rw [h3]; rfl)
      rw [e2, h2, uR_ne _ _ _ _ e, h1, uR_ne _ _ _ _ e]
  · have e2 : z5.2 = z2.2 := by rw [h5]; exact a7.trans (by rw [h3]; rfl)
    rw [e2, h2, h1]
    rfl
  · rw [h5, uI_ne _ _ _ _ (by decide), a6 0 8 (by omega), e1, uI_same]
    rfl
  · rw [h5, uI_ne _ _ _ _ (by decide)]; exact a2 j hj
  · rw [h5, uI_ne _ _ _ _ (by decide)]; exact a3
  · rw [h5, uI_ne _ _ _ _ (by decide)]; exact a4.1
  · rw [h5, uI_ne _ _ _ _ (by decide)]; exact a4.2
  · rw [h5, uI_ne _ _ _ _ (by decide)]; exact a5.1
  · rw [h5, uI_ne _ _ _ _ (by decide)]; exact a5.2.1
  · rw [h5, uI_ne _ _ _ _ (by decide)]; exact a5.2.2
  · by_cases e : h = 91
    · subst e
      rw [h5, uI_same, upd_g, if_neg (by omega), a6 91 j (by omega), e1, uI_ne _ _ _ _ (by decide)]
    · rw [h5, uI_ne _ _ _ _ e, a6 h j (by omega), e1]
      by_cases e0 : h = 0
      · subst e0
        rw [uI_same, upd_g, if_neg (by omega)]
      · rw [uI_ne _ _ _ _ e0]
/-- the FAULT is told -/
def FLT (s s' : mjSt3) : Prop := s'.1 0 9 = s.1 58 7 ∧ s'.1 0 10 = s.1 58 8 ∧ (∀ h j, ¬ (h = 0 ∧ (j = 9 ∨ j = 10)) → s'.1 h j = s.1 h j) ∧ s'.2 = s.2
theorem x_tail : ∃ s', FLT s s' ∧ (¬ s.1 58 7 = 0 → b_204_92 (mjF (d + 3)) 0 (mjW0 s) = some (some (.int (s.1 58 7)), mjW0 s')) ∧ (s.1 58 7 = 0 → ∃ s'', b_204_92 (mjF (d + 3)) 0 (mjW0 s) = some (some (.int 0), mjW0 s'') ∧ TKS s' s'') := by
  obtain ⟨z1, h1⟩ : ∃ z, z = uI s 0 (upd (s.1 0) 9 (s.1 58 7)) := ⟨_, rfl⟩
  obtain ⟨z2, h2⟩ : ∃ z, z = uI z1 0 (upd (z1.1 0) 10 (s.1 58 8)) := ⟨_, rfl⟩
  have g : ∀ j, z2.1 0 j = if j = 10 then s.1 58 8 else if j = 9 then s.1 58 7 else s.1 0 j := fun j => by
    rw [h2, uI_same, upd_g, h1, uI_same, upd_g]
  have e9 : z2.1 0 9 = s.1 58 7 := by rw [g]; rfl
  have pre : b_204_92 (mjF (d + 3)) 0 (mjW0 s) = if s.1 58 7 = 0 then bN (mjF (d + 3) 205 [.ref 0] (mjW0 z2)) (fun hp8 => b_204_125 (mjF (d + 3)) 0 hp8) else b_204_125 (mjF (d + 3)) 0 (mjW0 z2) := by
    unfold b_204_92
    rw [xg_0_2, xg_58_7, xp_0_9, ← h1, xg_0_2, xg_58_8, h1, uI_ne _ _ _ _ (by decide), ← h1, xp_0_10, ← h2, xg_0_9, e9, xV_0]
  refine ⟨z2, ⟨e9, by rw [g]; rfl, fun h j hj => ?_, by rw [h2, h1]; rfl⟩, fun hn => ?_, fun hz => ?_⟩
  · by_cases e : h = 0
    · subst e
      rw [g, if_neg (by omega), if_neg (by omega)]
    · rw [h2, uI_ne _ _ _ _ e, h1, uI_ne _ _ _ _ e]
  · rw [pre, if_neg hn]
    unfold b_204_125
    rw [xg_0_9, e9]
  · obtain ⟨s'', a1, a2⟩ := x_205 (d := d) (s := z2)
    refine ⟨s'', ?_, a2⟩
    rw [pre, if_pos hz, a1, bN_s]
    unfold b_204_125
    rw [xg_0_9, a2.2.2.2.2.2.2.2.2 0 9 (by omega), e9, hz]
end MJA64
