/-! ===== the law's loop, the calls counted ===== -/
theorem PairOK.go {P : mjSt3 → Prop} {jc jm : Nat} {A : List Value} {s : mjSt3} (h : PairOK P jc jm A s) : PairGo P jc jm A s := by
  obtain ⟨r, s1, s2, e1, e2, h2⟩ := h
  exact ⟨r, r, s1, s2, e1, e2, h2⟩
theorem law_c {L : Nat} {xs : Nat → Int32} (hL : L ≤ 3072) :
    ∀ (k i n : Nat) (s : mjSt3), Inv i s → i + k = 512 → L ≤ 3077 → k < n → ∃ hpE, L_900_18 (mjF 1999) L xs n 0 97 (nI (6 * i)) (mjW0 s) = some (some (.int 1), hpE) := by
  intro k
  induction k with
  | zero =>
    intro i n s hs hi hk hn
    obtain ⟨n, rfl⟩ : ∃ m, n = m + 1 := ⟨n - 1, by omega⟩
    rw [lp_S]
    unfold b_900_18
    rw [if_pos (lp_exit (by omega) (by omega))]
    exact ⟨_, rfl⟩
  | succ k ih =>
    intro i n s hs hi hk hn
    obtain ⟨n, rfl⟩ : ∃ m, n = m + 1 := ⟨n - 1, by omega⟩
    rw [lp_S]
    unfold b_900_18
    by_cases hE : L < 6 * i + 6
    · rw [if_pos (lp_exit (by omega) hE)]
      exact ⟨_, rfl⟩
    rw [if_neg (lp_in (by omega) (by omega)), lp_x (by omega) (by omega)]
    have fin : ∀ s2, Inv (i + 1) s2 → ∃ hpE, b_900_764 (mjF 1999) L xs (L_900_18 (mjF 1999) L xs n) 0 97 (nI (6 * i)) (mjW0 s2) = some (some (.int 1), hpE) := by
      intro s2 h2
      unfold b_900_764
      rw [show nI (6 * i) + (6 : Int32) = nI (6 * (i + 1)) from nI_add (6 * i) 6]
      exact ih (i + 1) n s2 h2 (by omega) (by omega) (by omega)
    have x1 : ∀ k : Int32 → mjU, aX L xs (nI (6 * i) + 1) k = k (xs (6 * i + 1)) := fun k => lp_y (c := 1) (by omega) (by omega)
    have x2 : ∀ k : Int32 → mjU, aX L xs (nI (6 * i) + 2) k = k (xs (6 * i + 2)) := fun k => lp_y (c := 2) (by omega) (by omega)
    have x3 : ∀ k : Int32 → mjU, aX L xs (nI (6 * i) + 3) k = k (xs (6 * i + 3)) := fun k => lp_y (c := 3) (by omega) (by omega)
    have x4 : ∀ k : Int32 → mjU, aX L xs (nI (6 * i) + 4) k = k (xs (6 * i + 4)) := fun k => lp_y (c := 4) (by omega) (by omega)
    have x5 : ∀ k : Int32 → mjU, aX L xs (nI (6 * i) + 5) k = k (xs (6 * i + 5)) := fun k => lp_y (c := 5) (by omega) (by omega)
    generalize xs (6 * i) &&& 31 = w
    by_cases h0 : w = 0
    · rw [if_pos h0]
      simp only [x1, x2, x3, x4, x5]
      obtain ⟨r, r', s1, s2, e1, e2, h2⟩ := (pair_feed2 hs (xs (6 * i + 1)) (xs (6 * i + 2)) (xs (6 * i + 3)) (xs (6 * i + 4)) (xs (6 * i + 5))).go
      rw [xV_0, e1, bI_s]
      try simp only [x1, x2, x3, x4, x5]
      rw [xV_97, e2, bI_s]
      exact fin s2 h2
    rw [if_neg h0]
    by_cases h1 : w = 1
    · rw [if_pos h1]
      simp only [x1, x2]
      by_cases hb : xs (6 * i + 2) = 0
      · rw [if_pos hb]
        obtain ⟨r, r', s1, s2, e1, e2, h2⟩ := pair_load hs (xs (6 * i + 1)) 0 (Or.inl rfl)
        unfold b_900_210
        rw [xV_0, e1, bI_s]
        try simp only [x1, x2]
        rw [if_pos hb]
        unfold b_900_233
        rw [xV_97, e2, bI_s]
        exact fin s2 h2
      · rw [if_neg hb]
        obtain ⟨r, r', s1, s2, e1, e2, h2⟩ := pair_load hs (xs (6 * i + 1)) 1 (Or.inr rfl)
        unfold b_900_210
        rw [xV_0, e1, bI_s]
        try simp only [x1, x2]
        rw [if_neg hb]
        unfold b_900_233
        rw [xV_97, e2, bI_s]
        exact fin s2 h2
    rw [if_neg h1]
    by_cases h2 : w = 2
    · rw [if_pos h2]
      simp only [x1]
      obtain ⟨r, r', s1, s2, e1, e2, h2⟩ := pair_fault2 hs (xs (6 * i + 1))
      rw [xV_0, e1, bI_s]
      try simp only [x1]
      rw [xV_97, e2, bI_s]
      exact fin s2 h2
    rw [if_neg h2]
    by_cases h3 : w = 3
    · rw [if_pos h3]
      simp only [x1, x2]
      obtain ⟨r, r', s1, s2, e1, e2, h2⟩ := (pair_type hs (xs (6 * i + 1)) (xs (6 * i + 2))).go
      rw [xV_0, e1, bI_s]
      try simp only [x1, x2]
      rw [xV_97, e2, bI_s]
      exact fin s2 h2
    rw [if_neg h3]
    by_cases h4 : w = 4
    · rw [if_pos h4]
      simp only [x1, x2, x3]
      obtain ⟨r, r', s1, s2, e1, e2, h2⟩ := (pair_isIn hs (xs (6 * i + 1)) (xs (6 * i + 2)) (xs (6 * i + 3))).go
      rw [xV_0, e1, bI_s]
      try simp only [x1, x2, x3]
      rw [xV_97, e2, bI_s]
      exact fin s2 h2
    rw [if_neg h4]
    by_cases h5 : w = 5
    · rw [if_pos h5]
      simp only [x1, x2]
      obtain ⟨r, r', s1, s2, e1, e2, h2⟩ := (pair_start hs (xs (6 * i + 1)) (xs (6 * i + 2))).go
      rw [xV_0, e1, bI_s]
      try simp only [x1, x2]
      rw [xV_97, e2, bI_s]
      exact fin s2 h2
    rw [if_neg h5]
    by_cases h6 : w = 6
    · rw [if_pos h6]
      simp only [x1]
      obtain ⟨r, r', s1, s2, e1, e2, h2⟩ := (pair_run (by omega) hs (xs (6 * i + 1))).go
      rw [xV_0, e1, bI_s]
      try simp only [x1]
      rw [xV_97, e2, bI_s]
      exact fin s2 h2
    rw [if_neg h6]
    by_cases h7 : w = 7
    · rw [if_pos h7]
      simp only [x1]
      obtain ⟨r, r', s1, s2, e1, e2, h2⟩ := (pair_state2 hs (xs (6 * i + 1))).go
      rw [xV_0, e1, bI_s]
      try simp only [x1]
      rw [xV_97, e2, bI_s]
      exact fin s2 h2
    rw [if_neg h7]
    by_cases h8 : w = 8
    · rw [if_pos h8]
      simp only [x1]
      obtain ⟨r, r', s1, s2, e1, e2, h2⟩ := (pair_said2 (by omega) hs (xs (6 * i + 1))).go
      rw [xV_0, e1, bI_s]
      try simp only [x1]
      rw [xV_97, e2, bI_s]
      exact fin s2 h2
    rw [if_neg h8]
    by_cases h9 : w = 9
    · rw [if_pos h9]
      simp only [x1, x2]
      obtain ⟨r, r', s1, s2, e1, e2, h2⟩ := (pair_call hs (xs (6 * i + 1)) (xs (6 * i + 2))).go
      rw [xV_0, e1, bI_s]
      try simp only [x1, x2]
      rw [xV_97, e2, bI_s]
      exact fin s2 h2
    rw [if_neg h9]
    by_cases h10 : w = 10
    · rw [if_pos h10]
      simp only [x1, x2]
      obtain ⟨r, r', s1, s2, e1, e2, h2⟩ := pair_variable hs (xs (6 * i + 1)) (xs (6 * i + 2))
      rw [xV_0, e1, bI_s]
      try simp only [x1, x2]
      rw [xV_97, e2, bI_s]
      exact fin s2 h2
    rw [if_neg h10]
    by_cases h11 : w = 11
    · rw [if_pos h11]
      simp only [x1, x2]
      obtain ⟨r, r', s1, s2, e1, e2, h2⟩ := (pair_object hs (xs (6 * i + 1)) (xs (6 * i + 2))).go
      rw [xV_0, e1, bI_s]
      try simp only [x1, x2]
      rw [xV_97, e2, bI_s]
      exact fin s2 h2
    rw [if_neg h11]
    by_cases h12 : w = 12
    · rw [if_pos h12]
      simp only [x1, x2]
      obtain ⟨r, r', s1, s2, e1, e2, h2⟩ := (pair_owner hs (xs (6 * i + 1)) (xs (6 * i + 2))).go
      rw [xV_0, e1, bI_s]
      try simp only [x1, x2]
      rw [xV_97, e2, bI_s]
      exact fin s2 h2
    rw [if_neg h12]
    by_cases h13 : w = 13
    · rw [if_pos h13]
      simp only [x1, x2]
      obtain ⟨r, r', s1, s2, e1, e2, h2⟩ := (pair_field hs (xs (6 * i + 1)) (xs (6 * i + 2))).go
      rw [xV_0, e1, bI_s]
      try simp only [x1, x2]
      rw [xV_97, e2, bI_s]
      exact fin s2 h2
    rw [if_neg h13]
    by_cases h14 : w = 14
    · rw [if_pos h14]
      simp only [x1, x2]
      obtain ⟨r, r', s1, s2, e1, e2, h2⟩ := (pair_inside hs (xs (6 * i + 1)) (xs (6 * i + 2))).go
      rw [xV_0, e1, bI_s]
      try simp only [x1, x2]
      rw [xV_97, e2, bI_s]
      exact fin s2 h2
    rw [if_neg h14]
    by_cases h15 : w = 15
    · rw [if_pos h15]
      simp only [x1, x2]
      obtain ⟨r, r', s1, s2, e1, e2, h2⟩ := (pair_way hs (xs (6 * i + 1)) (xs (6 * i + 2))).go
      rw [xV_0, e1, bI_s]
      try simp only [x1, x2]
      rw [xV_97, e2, bI_s]
      exact fin s2 h2
    rw [if_neg h15]
    by_cases h16 : w = 16
    · rw [if_pos h16]
      simp only [x1]
      obtain ⟨r, r', s1, s2, e1, e2, h2⟩ := (pair_above hs (xs (6 * i + 1))).go
      rw [xV_0, e1, bI_s]
      try simp only [x1]
      rw [xV_97, e2, bI_s]
      exact fin s2 h2
    rw [if_neg h16]
    by_cases h17 : w = 17
    · rw [if_pos h17]
      obtain ⟨r, r', s1, s2, e1, e2, h2⟩ := (pair_leaks hs).go
      rw [xV_0, e1, bI_s]
      rw [xV_97, e2, bI_s]
      exact fin s2 h2
    rw [if_neg h17]
    by_cases h18 : w = 18
    · rw [if_pos h18]
      simp only [x1]
      obtain ⟨r, r', s1, s2, e1, e2, h2⟩ := (pair_leak hs (xs (6 * i + 1))).go
      rw [xV_0, e1, bI_s]
      try simp only [x1]
      rw [xV_97, e2, bI_s]
      exact fin s2 h2
    rw [if_neg h18]
    by_cases h19 : w = 19
    · rw [if_pos h19]
      simp only [x1, x2]
      obtain ⟨r, s1, s2, e1, e2, h2⟩ := pair_past hs (xs (6 * i + 1)) (xs (6 * i + 2))
      rw [xV_0, e1, bI_s]
      try simp only [x1, x2]
      rw [xV_97, e2, bI_s, if_pos rfl]
      exact fin s2 h2
    rw [if_neg h19]
    exact fin s (hs.mono (by omega))
theorem p_all (xs : Nat → Int32) (L : Nat) (hL : L ≤ 3072) : ∃ hpE, L_900_18 (mjF 1999) L xs mjN 0 97 0 H_G = some (some (.int 1), hpE) := by
  rw [H_G_eq]
  exact law_c hL 512 0 mjN s_0 Inv_0 (by omega) (by omega) (by decide)
