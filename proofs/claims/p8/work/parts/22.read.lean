/-! ===== calls that only look: fault, state, said ===== -/
theorem ite_ans (c : Prop) [Decidable c] (x y : Int32) (hp : mjH) : (if c then some (some (Value.int x), hp) else some (some (Value.int y), hp) : mjU) = some (some (.int (if c then x else y)), hp) := by
  by_cases h : c
  · rw [if_pos h, if_pos h]
  · rw [if_neg h, if_neg h]
def I_fault (s : mjSt3) : Prop := s.1 0 9 = s.1 97 59 ∧ s.1 0 10 = s.1 97 60
theorem pair_fault {Inv : mjSt3 → Prop} {s : mjSt3} (hs : Inv s) (h : I_fault s) (a : Int32) : PairOK Inv 206 336 [.int a] s := by
  refine ⟨if a = 0 then s.1 97 59 else if a = 1 then s.1 97 60 else -1, s, s, ?_, ?_, hs⟩
  · rw [e_206 (d := 1998)]
    unfold f_206
    unfold b_206_0
    simp only [xg_0_9, xg_0_10, h.1, h.2]
    repeat' split
    all_goals rfl
  · rw [e_336 (d := 1998)]
    unfold f_336
    unfold b_336_0
    simp only [xg_97_59, xg_97_60]
    repeat' split
    all_goals rfl
/-- the numbers that state() shows -/
def I_st (s : mjSt3) : Prop := s.1 82 8 = s.1 97 96 ∧ (s.1 82 8 = 0 → s.1 82 9 = 0 ∧ s.1 82 10 = 0 ∧ s.1 82 11 = -1 ∧ s.1 82 12 = 0 ∧ s.1 79 3 = 0 ∧ s.1 79 2 = 0 ∧ s.1 83 0 = 0 ∧ s.1 83 1 = 0 ∧ s.1 82 13 = 0) ∧ (¬ s.1 82 8 = 0 → s.1 82 9 = s.1 97 97 ∧ s.1 82 10 = s.1 97 98 ∧ s.1 82 11 = s.1 97 99 ∧ s.1 82 12 = s.1 97 100 ∧ s.1 79 3 = s.1 97 102 ∧ s.1 79 2 = s.1 97 103 ∧ s.1 83 0 = s.1 97 116 ∧ s.1 83 1 = s.1 97 105 ∧ s.1 82 13 = s.1 97 106)
theorem i_09 {a : Int32} (h0 : ¬ a < 0) (h9 : a ≤ 9) : a = 0 ∨ a = 1 ∨ a = 2 ∨ a = 3 ∨ a = 4 ∨ a = 5 ∨ a = 6 ∨ a = 7 ∨ a = 8 ∨ a = 9 := by
  obtain ⟨j, hj, rfl⟩ := nI_of2 (M := 9) (n := 9) rfl h0 h9
  match j, hj with
  | 0, _ => exact Or.inl rfl
  | 1, _ => exact Or.inr (Or.inl rfl)
  | 2, _ => exact Or.inr (Or.inr (Or.inl rfl))
  | 3, _ => exact Or.inr (Or.inr (Or.inr (Or.inl rfl)))
  | 4, _ => exact Or.inr (Or.inr (Or.inr (Or.inr (Or.inl rfl))))
  | 5, _ => exact Or.inr (Or.inr (Or.inr (Or.inr (Or.inr (Or.inl rfl)))))
  | 6, _ => exact Or.inr (Or.inr (Or.inr (Or.inr (Or.inr (Or.inr (Or.inl rfl))))))
  | 7, _ => exact Or.inr (Or.inr (Or.inr (Or.inr (Or.inr (Or.inr (Or.inr (Or.inl rfl)))))))
  | 8, _ => exact Or.inr (Or.inr (Or.inr (Or.inr (Or.inr (Or.inr (Or.inr (Or.inr (Or.inl rfl))))))))
  | 9, _ => exact Or.inr (Or.inr (Or.inr (Or.inr (Or.inr (Or.inr (Or.inr (Or.inr (Or.inr rfl))))))))
def stC (s : mjSt3) (a : Int32) : Int32 := if a = 0 then s.1 82 8 else if a = 1 then s.1 82 9 else if a = 2 then s.1 82 10 else if a = 3 then s.1 82 11 else if a = 4 then s.1 82 12 else if a = 5 then s.1 79 3 else if a = 6 then s.1 79 2 else if a = 7 then s.1 83 0 else if a = 8 then s.1 83 1 else if a = 9 then s.1 82 13 else -1
theorem f_stateC {d : Nat} {s : mjSt3} (a : Int32) : mjF (d + 1) 212 [.ref 0, .int a] (mjW0 s) = some (some (.int (stC s a)), mjW0 s) := by
  rw [e_212]
  unfold f_212
  unfold b_212_0 stC
  simp only [xg_0_12, xg_0_11, xg_82_8, xg_82_9, xg_82_10, xg_82_11, xg_82_12, xg_82_13, xg_82_1, xg_79_2, xg_79_3, xg_83_0, xg_83_1]
  simp only [ite_ans]
def stM (s : mjSt3) (a : Int32) : Int32 := if a < 0 then -1 else if a ≤ 9 then (if s.1 97 96 = 0 then (if a = 3 then -1 else 0) else if a = 0 then s.1 97 96 else if a = 1 then s.1 97 97 else if a = 2 then s.1 97 98 else if a = 3 then s.1 97 99 else if a = 4 then s.1 97 100 else if a = 5 then s.1 97 102 else if a = 6 then s.1 97 103 else if a = 7 then s.1 97 116 else if a = 8 then s.1 97 105 else s.1 97 106) else -1
theorem f_stateM {d : Nat} {s : mjSt3} (a : Int32) : mjF (d + 1) 341 [.ref 97, .int a] (mjW0 s) = some (some (.int (stM s a)), mjW0 s) := by
  rw [e_341]
  unfold f_341
  unfold b_341_0 b_341_10 stM
  simp only [xg_97_96, xg_97_97, xg_97_98, xg_97_99, xg_97_100, xg_97_102, xg_97_103, xg_97_116, xg_97_105, xg_97_106]
  simp only [ite_ans]
theorem st_same {s : mjSt3} (h : I_st s) (a : Int32) : stM s a = stC s a := by
  obtain ⟨h1, h2, h3⟩ := h
  unfold stM stC
  by_cases h0 : a < 0
  · have hn : ∀ c : Int32, ¬ c < 0 → ¬ a = c := fun c hc e => hc (e ▸ h0)
    rw [if_pos h0, if_neg (hn 0 (by decide)), if_neg (hn 1 (by decide)), if_neg (hn 2 (by decide)), if_neg (hn 3 (by decide)), if_neg (hn 4 (by decide)), if_neg (hn 5 (by decide)), if_neg (hn 6 (by decide)), if_neg (hn 7 (by decide)), if_neg (hn 8 (by decide)), if_neg (hn 9 (by decide))]
  rw [if_neg h0]
  by_cases h9 : a ≤ 9
  · rw [if_pos h9]
    by_cases hz : s.1 82 8 = 0
    · obtain ⟨a1, a2, a3, a4, a5, a6, a7, a8, a9⟩ := h2 hz
      rw [← h1, if_pos hz, hz, a1, a2, a3, a4, a5, a6, a7, a8, a9]
      rcases i_09 h0 h9 with e | e | e | e | e | e | e | e | e | e <;> rw [e] <;> decide
    · obtain ⟨a1, a2, a3, a4, a5, a6, a7, a8, a9⟩ := h3 hz
      rw [← h1, if_neg hz, a1, a2, a3, a4, a5, a6, a7, a8, a9]
      rcases i_09 h0 h9 with e | e | e | e | e | e | e | e | e | e <;> rw [e] <;> rfl
  · have hn : ∀ c : Int32, c ≤ 9 → ¬ a = c := fun c hc e => h9 (e ▸ hc)
    rw [if_neg h9, if_neg (hn 0 (by decide)), if_neg (hn 1 (by decide)), if_neg (hn 2 (by decide)), if_neg (hn 3 (by decide)), if_neg (hn 4 (by decide)), if_neg (hn 5 (by decide)), if_neg (hn 6 (by decide)), if_neg (hn 7 (by decide)), if_neg (hn 8 (by decide)), if_neg (hn 9 (by decide))]
theorem pair_state {Inv : mjSt3 → Prop} {s : mjSt3} (hs : Inv s) (h : I_st s) (a : Int32) : PairOK Inv 212 341 [.int a] s :=
  ⟨stC s a, s, s, f_stateC (d := 1998) a, (by rw [← st_same h a]; exact f_stateM (d := 1998) a), hs⟩
/-- what was said -/
def I_said (s : mjSt3) : Prop := ∀ k : Nat, k < 200 → nI k < s.1 82 13 → s.1 90 k = s.1 167 k
theorem pair_said {Inv : mjSt3 → Prop} {s : mjSt3} (hs : Inv s) (h : I_st s) (hd : I_said s) (a : Int32) : PairOK Inv 213 342 [.int a] s := by
  obtain ⟨h1, h2, h3⟩ := h
  by_cases h0 : a < 0
  · refine ⟨0, s, s, ?_, ?_, hs⟩
    · rw [e_213 (d := 1998)]
      unfold f_213
      unfold b_213_0
      rw [if_pos h0]; rfl
    · rw [e_342 (d := 1998)]
      unfold f_342
      unfold b_342_0
      rw [xg_97_96, if_pos h0]
      unfold b_342_26
      simp only [ite_self]
  by_cases h4 : (200 : Int32) ≤ a
  · refine ⟨0, s, s, ?_, ?_, hs⟩
    · rw [e_213 (d := 1998)]
      unfold f_213
      unfold b_213_0
      rw [if_neg h0, if_pos h4]; rfl
    · rw [e_342 (d := 1998)]
      unfold f_342
      unfold b_342_0
      rw [xg_97_96, if_neg h0, if_pos h4]
      unfold b_342_26
      simp only [ite_self]
  by_cases h5 : s.1 82 13 ≤ a
  · refine ⟨0, s, s, ?_, ?_, hs⟩
    · rw [e_213 (d := 1998)]
      unfold f_213
      unfold b_213_0
      rw [if_neg h0, if_neg h4, xg_0_12, xg_82_13, if_pos h5]; rfl
    · rw [e_342 (d := 1998)]
      unfold f_342
      unfold b_342_0
      rw [xg_97_96, if_neg h0, if_neg h4, xg_97_106]
      by_cases hz : s.1 82 8 = 0
      · rw [← h1, if_pos hz]; rfl
      · rw [← h1, if_neg hz, ← (h3 hz).2.2.2.2.2.2.2.2, if_neg (Int32.not_lt.mpr h5)]; rfl
  · have hz : ¬ s.1 82 8 = 0 := fun hz => h5 (by rw [(h2 hz).2.2.2.2.2.2.2.2]; exact Int32.not_lt.mp h0)
    have e6 : a < s.1 82 13 := Int32.not_le.mp h5
    obtain ⟨k, hk, rfl⟩ := nI_of h0
    have hk2 : k < 200 := by
      by_cases g : k < 200
      · exact g
      · exact absurd (show (200 : Int32) ≤ nI k from nI_le (a := 200) (by omega) hk) h4
    refine ⟨s.1 90 k, s, s, ?_, ?_, hs⟩
    · rw [e_213 (d := 1998)]
      unfold f_213
      unfold b_213_0
      rw [if_neg h0, if_neg h4, xg_0_12, xg_82_13, if_neg h5, xg_0_12, xg_82_14, xa_90, if_pos (mj_in_nI hk2 (by decide)), nI_clamp hk]
    · rw [e_342 (d := 1998)]
      unfold f_342
      unfold b_342_0
      rw [xg_97_96, if_neg h0, if_neg h4, xg_97_106, ← h1, if_neg hz, ← (h3 hz).2.2.2.2.2.2.2.2, if_pos e6, xg_97_107, xa_167, if_pos (mj_in_nI hk2 (by decide)), nI_clamp hk, hd k hk2 e6]
