/-! ===== Arrays.fill as equations ===== -/
theorem uI_uI (s : mjSt3) (h : Nat) (f g : Nat → Int32) : uI (uI s h f) h g = uI s h g := by
  unfold uI
  refine Prod.ext (funext fun q => ?_) rfl
  by_cases e : q = h
  · simp only [if_pos e]
  · simp only [if_neg e]
theorem uI_self (s : mjSt3) (h : Nat) : uI s h (s.1 h) = s := by
  unfold uI
  refine Prod.ext (funext fun q => ?_) rfl
  by_cases e : q = h
  · subst e; exact if_pos rfl
  · exact if_neg e
theorem uL_uL (s : mjSt3) (h : Nat) (f g : Nat → Int64) : uL (uL s h f) h g = uL s h g := by
  unfold uL
  refine Prod.ext rfl (Prod.ext (funext fun q => ?_) rfl)
  by_cases e : q = h
  · simp only [if_pos e]
  · simp only [if_neg e]
theorem uL_self (s : mjSt3) (h : Nat) : uL s h (s.2.1 h) = s := by
  unfold uL
  refine Prod.ext rfl (Prod.ext (funext fun q => ?_) rfl)
  by_cases e : q = h
  · subst e; exact if_pos rfl
  · exact if_neg e
def fillG (f : Nat → Int64) (a b : Nat) (v : Int64) : Nat → Int64 := fun j => if a ≤ j ∧ j < b then v else f j
theorem fillG_nil (f : Nat → Int64) (n : Nat) (v : Int64) : fillG f n n v = f := by
  funext j
  exact if_neg (by omega)
theorem fillG_step (f : Nat → Int64) (i n : Nat) (v : Int64) (h : i < n) : fillG (vp_updL f i v) (i + 1) n v = fillG f i n v := by
  funext j
  unfold fillG vp_updL
  by_cases hj : j = i
  · subst hj
    rw [if_neg (by omega), if_pos rfl, if_pos (by omega)]
  · rw [if_neg hj]
    by_cases h2 : i + 1 ≤ j ∧ j < n
    · rw [if_pos h2, if_pos (by omega)]
    · rw [if_neg h2, if_neg (by omega)]
theorem lq_377 {R : mjR} {h N : Nat} {v : Int32} (hT : T_0[h]? = some (.inl (0, N, false))) (hN : N < 2 ^ 31) : ∀ (k i n : Nat) (s : mjSt3), i + k = N → k < n → L_377_5 R n h v (nI i) (nI N) (mjW0 s) = some (none, mjW0 (uI s h (fillF (s.1 h) i N v))) := by
  intro k
  induction k with
  | zero =>
    intro i n s hi hn
    obtain ⟨n, rfl⟩ : ∃ m, n = m + 1 := ⟨n - 1, by omega⟩
    have e : i = N := by omega
    subst e
    show b_377_5 R (L_377_5 R n) h v (nI i) (nI i) (mjW0 s) = _
    unfold b_377_5
    rw [if_pos (nI_le (Nat.le_refl i) hN), fillF_nil, uI_self]
  | succ k ih =>
    intro i n s hi hn
    obtain ⟨n, rfl⟩ : ∃ m, n = m + 1 := ⟨n - 1, by omega⟩
    show b_377_5 R (L_377_5 R n) h v (nI i) (nI N) (mjW0 s) = _
    unfold b_377_5
    rw [if_neg (nI_ge (by omega) hN), mjW0, ts_I hT, if_pos (mj_in_nI (by omega) hN), nI_clamp (by omega), nI_1]
    refine (ih (i + 1) n _ (by omega) (by omega)).trans ?_
    rw [uI_same, uI_uI, fillF_step _ _ _ _ (by omega)]
theorem q_377 {d h N : Nat} {v : Int32} {s : mjSt3} (hT : T_0[h]? = some (.inl (0, N, false))) (hN : N < 100000) : mjF (d + 1) 377 [.ref h, .int v] (mjW0 s) = some (none, mjW0 (uI s h (fillF (s.1 h) 0 N v))) := by
  rw [e_377]
  unfold f_377
  unfold b_377_0
  rw [mjW0, ta_N hT (by decide)]
  exact lq_377 hT (by omega) N 0 mjN s (by omega) (by unfold mjN; omega)
theorem lq_378 {R : mjR} {h N : Nat} {v : Int64} (hT : T_0[h]? = some (.inl (1, N, true))) (hN : N < 2 ^ 31) : ∀ (k i n : Nat) (s : mjSt3), i + k = N → k < n → L_378_6 R n h v (nI i) (nI N) (mjW0 s) = some (none, mjW0 (uL s h (fillG (s.2.1 h) i N v))) := by
  intro k
  induction k with
  | zero =>
    intro i n s hi hn
    obtain ⟨n, rfl⟩ : ∃ m, n = m + 1 := ⟨n - 1, by omega⟩
    have e : i = N := by omega
    subst e
    show b_378_6 R (L_378_6 R n) h v (nI i) (nI i) (mjW0 s) = _
    unfold b_378_6
    rw [if_pos (nI_le (Nat.le_refl i) hN), fillG_nil, uL_self]
  | succ k ih =>
    intro i n s hi hn
    obtain ⟨n, rfl⟩ : ∃ m, n = m + 1 := ⟨n - 1, by omega⟩
    show b_378_6 R (L_378_6 R n) h v (nI i) (nI N) (mjW0 s) = _
    unfold b_378_6
    rw [if_neg (nI_ge (by omega) hN), mjW0, ts_L hT, if_pos (mj_in_nI (by omega) hN), nI_clamp (by omega), nI_1]
    refine (ih (i + 1) n _ (by omega) (by omega)).trans ?_
    rw [uL_same, uL_uL, fillG_step _ _ _ _ (by omega)]
theorem q_378 {d h N : Nat} {v : Int64} {s : mjSt3} (hT : T_0[h]? = some (.inl (1, N, true))) (hN : N < 100000) : mjF (d + 1) 378 [.ref h, .long v] (mjW0 s) = some (none, mjW0 (uL s h (fillG (s.2.1 h) 0 N v))) := by
  rw [e_378]
  unfold f_378
  unfold b_378_0
  rw [mjW0, ta_N hT (by decide)]
  exact lq_378 hT (by omega) N 0 mjN s (by omega) (by unfold mjN; omega)
theorem lq_379 {R : mjR} {h N B : Nat} {v : Int32} (hT : T_0[h]? = some (.inl (0, N, false))) (hN : N < 2 ^ 31) (hB : B ≤ N) : ∀ (k i n : Nat) (s : mjSt3), i + k = B → k < n → L_379_10 R n h (nI B) v (nI i) (mjW0 s) = some (none, mjW0 (uI s h (fillF (s.1 h) i B v))) := by
  intro k
  induction k with
  | zero =>
    intro i n s hi hn
    obtain ⟨n, rfl⟩ : ∃ m, n = m + 1 := ⟨n - 1, by omega⟩
    have e : i = B := by omega
    subst e
    show b_379_10 R (L_379_10 R n) h (nI i) v (nI i) (mjW0 s) = _
    unfold b_379_10
    rw [if_pos (nI_le (Nat.le_refl i) (by omega)), fillF_nil, uI_self]
  | succ k ih =>
    intro i n s hi hn
    obtain ⟨n, rfl⟩ : ∃ m, n = m + 1 := ⟨n - 1, by omega⟩
    show b_379_10 R (L_379_10 R n) h (nI B) v (nI i) (mjW0 s) = _
    unfold b_379_10
    rw [if_neg (nI_ge (by omega) (by omega)), mjW0, ts_I hT, if_pos (mj_in_nI (by omega) hN), nI_clamp (by omega), nI_1]
    refine (ih (i + 1) n _ (by omega) (by omega)).trans ?_
    rw [uI_same, uI_uI, fillF_step _ _ _ _ (by omega)]
theorem q_379 {d h N A B : Nat} {v : Int32} {s : mjSt3} (hT : T_0[h]? = some (.inl (0, N, false))) (hN : N < 100000) (hA : A ≤ B) (hB : B ≤ N) : mjF (d + 2) 379 [.ref h, .int (nI A), .int (nI B), .int v] (mjW0 s) = some (none, mjW0 (uI s h (fillF (s.1 h) A B v))) := by
  rw [e_379]
  unfold f_379
  unfold b_379_0
  have e : mjF (d + 1) 380 [.int (Int32.ofNat N), .int (nI A), .int (nI B)] (mjW0 s) = some (none, mjW0 s) := by
    rw [e_380]
    unfold f_380
    unfold b_380_0
    rw [if_pos (nI_le hA (by omega)), if_pos (nI_pos' (by omega)), if_pos (show nI B ≤ Int32.ofNat N from nI_le hB (by omega))]
  rw [show aN (mjW0 s) h = aN (mjHT T_0 s) h from rfl, ta_N hT (by decide), e, bN_s]
  exact lq_379 hT (by omega) hB (B - A) A mjN s (by omega) (by unfold mjN; omega)
/-! Math -/
theorem q_max {d : Nat} {a b : Int32} {hp : mjH} : mjF (d + 1) 354 [.int a, .int b] hp = some (some (.int (if b ≤ a then a else b)), hp) := by
  rw [e_354]
  unfold f_354
  unfold b_354_0
  by_cases h : b ≤ a
  · simp only [if_pos h, if_neg (Int32.not_lt.mpr h)]
  · simp only [if_neg h, if_pos (Int32.not_le.mp h)]
theorem q_min {d : Nat} {a b : Int32} {hp : mjH} : mjF (d + 1) 355 [.int a, .int b] hp = some (some (.int (if a ≤ b then a else b)), hp) := by
  rw [e_355]
  unfold f_355
  unfold b_355_0
  by_cases h : a ≤ b
  · simp only [if_pos h, if_neg (Int32.not_lt.mpr h)]
  · simp only [if_neg h, if_pos (Int32.not_le.mp h)]
