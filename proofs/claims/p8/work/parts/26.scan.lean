/-! ===== scanning names and numbers ===== -/
/-- a name's letters and digits from i on, k bytes left: the key, the end -/
def scN (tx : Nat → Int32) : Nat → Int64 → Nat → Int64 × Nat
  | 0, key, i => (key, i)
  | k + 1, key, i => if isLb (tx i) = true then scN tx k (key * 64 + (cdC (tx i)).toInt64) (i + 1) else if isDb (tx i) = true then scN tx k (key * 64 + (cdC (tx i)).toInt64) (i + 1) else (key, i)
def scD (tx : Nat → Int32) : Nat → Int64 → Nat → Int64 × Nat
  | 0, v, i => (v, i)
  | k + 1, v, i => if isDb (tx i) = true then scD tx k (v * 10 + (tx i - 48).toInt64) (i + 1) else (v, i)
theorem scN_le (tx : Nat → Int32) : ∀ (k : Nat) (key : Int64) (i : Nat), i ≤ (scN tx k key i).2 ∧ (scN tx k key i).2 ≤ i + k
  | 0, _, i => ⟨Nat.le_refl _, Nat.le_refl _⟩
  | k + 1, key, i => by
    have r := scN_le tx k (key * 64 + (cdC (tx i)).toInt64) (i + 1)
    unfold scN
    repeat' split
    · exact ⟨by omega, by omega⟩
    · exact ⟨by omega, by omega⟩
    · exact ⟨Nat.le_refl _, by show i ≤ _; omega⟩
theorem scD_le (tx : Nat → Int32) : ∀ (k : Nat) (v : Int64) (i : Nat), i ≤ (scD tx k v i).2 ∧ (scD tx k v i).2 ≤ i + k
  | 0, _, i => ⟨Nat.le_refl _, Nat.le_refl _⟩
  | k + 1, v, i => by
    have r := scD_le tx k (v * 10 + (tx i - 48).toInt64) (i + 1)
    unfold scD
    split
    · exact ⟨by omega, by omega⟩
    · exact ⟨Nat.le_refl _, by show i ≤ _; omega⟩
theorem i1 {b : Bool} (h : b = true) : ¬ (if b = true then (1 : Int32) else 0) = 0 := by rw [if_pos h]; decide
theorem i0 {b : Bool} (h : ¬ b = true) : (if b = true then (1 : Int32) else 0) = 0 := by rw [if_neg h]
theorem lq_158 {d n fr : Nat} {s : mjSt3} (hn : n ≤ 3000) : ∀ (k i q : Nat) (key : Int64), i + k = n → k < q → L_158_6 (mjF (d + 1)) q 58 1 (nI fr) (nI n) key (nI i) (mjW0 s) = b_158_49 (mjF (d + 1)) 58 1 (nI fr) (scN (s.1 1) k key i).1 (nI (scN (s.1 1) k key i).2) (mjW0 s) := by
  intro k
  induction k with
  | zero =>
    intro i q key hi hq
    obtain ⟨q, rfl⟩ : ∃ m, q = m + 1 := ⟨q - 1, by omega⟩
    have e : i = n := by omega
    subst e
    show b_158_6 (mjF (d + 1)) (L_158_6 (mjF (d + 1)) q) 58 1 (nI fr) (nI i) key (nI i) (mjW0 s) = _
    unfold b_158_6
    rw [if_pos (nI_le (Nat.le_refl i) (by omega))]
    rfl
  | succ k ih =>
    intro i q key hi hq
    obtain ⟨q, rfl⟩ : ∃ m, q = m + 1 := ⟨q - 1, by omega⟩
    show b_158_6 (mjF (d + 1)) (L_158_6 (mjF (d + 1)) q) 58 1 (nI fr) (nI n) key (nI i) (mjW0 s) = _
    have g : mj_in (nI i) 3000 = true := mj_in_nI (by omega) (by decide)
    have c : (nI i).toNatClampNeg = i := nI_clamp (by omega)
    have goOn : b_158_32 (mjF (d + 1)) (L_158_6 (mjF (d + 1)) q) 58 1 (nI fr) (nI n) key (nI i) (mjW0 s) = b_158_49 (mjF (d + 1)) 58 1 (nI fr) (scN (s.1 1) k (key * 64 + (cdC (s.1 1 i)).toInt64) (i + 1)).1 (nI (scN (s.1 1) k (key * 64 + (cdC (s.1 1 i)).toInt64) (i + 1)).2) (mjW0 s) := by
      unfold b_158_32
      rw [xa_1, if_pos g, c, x_spelled, nI_1]
      exact ih (i + 1) q _ (by omega) (by omega)
    unfold b_158_6 scN
    rw [if_neg (nI_ge (by omega) (by omega)), xa_1, if_pos g, c, x_letter, bI_s]
    by_cases h1 : isLb (s.1 1 i) = true
    · rw [if_neg (i1 h1), if_pos h1]
      exact goOn
    · rw [if_pos (i0 h1), if_neg h1, xa_1, if_pos g, c, x_digit, bI_s]
      by_cases h2 : isDb (s.1 1 i) = true
      · rw [if_neg (i1 h2), if_pos h2]
        exact goOn
      · rw [if_pos (i0 h2), if_neg h2]
theorem lq_162 {d n fr : Nat} {s : mjSt3} (hn : n ≤ 3000) : ∀ (k i q : Nat) (v : Int64), i + k = n → k < q → L_162_6 (mjF (d + 1)) q 58 1 (nI fr) (nI n) v (nI i) (mjW0 s) = b_162_45 (mjF (d + 1)) 58 (nI fr) (scD (s.1 1) k v i).1 (nI (scD (s.1 1) k v i).2) (mjW0 s) := by
  intro k
  induction k with
  | zero =>
    intro i q v hi hq
    obtain ⟨q, rfl⟩ : ∃ m, q = m + 1 := ⟨q - 1, by omega⟩
    have e : i = n := by omega
    subst e
    show b_162_6 (mjF (d + 1)) (L_162_6 (mjF (d + 1)) q) 58 1 (nI fr) (nI i) v (nI i) (mjW0 s) = _
    unfold b_162_6
    rw [if_pos (nI_le (Nat.le_refl i) (by omega))]
    rfl
  | succ k ih =>
    intro i q v hi hq
    obtain ⟨q, rfl⟩ : ∃ m, q = m + 1 := ⟨q - 1, by omega⟩
    show b_162_6 (mjF (d + 1)) (L_162_6 (mjF (d + 1)) q) 58 1 (nI fr) (nI n) v (nI i) (mjW0 s) = _
    have g : mj_in (nI i) 3000 = true := mj_in_nI (by omega) (by decide)
    have c : (nI i).toNatClampNeg = i := nI_clamp (by omega)
    unfold b_162_6 scD
    rw [if_neg (nI_ge (by omega) (by omega)), xa_1, if_pos g, c, x_digit, bI_s]
    by_cases h2 : isDb (s.1 1 i) = true
    · rw [if_neg (i1 h2), if_pos h2, xa_1, if_pos g, c, nI_1]
      exact ih (i + 1) q _ (by omega) (by omega)
    · rw [if_pos (i0 h2), if_neg h2]
theorem sub_le {a b c : Nat} (h : b ≤ a) (ha : a < 2 ^ 31) (hc : c < 2 ^ 31) : (nI a - nI b ≤ nI c) = (a - b ≤ c) := by
  rw [pk_sub h]
  exact propext (nI_leI (by omega) hc)
/-- cutNumber: NONE, or the end and a token more -/
theorem x_number {d n fr k m : Nat} {s : mjSt3} (hn : n ≤ 3000) (hk : fr + k = n) (hc : s.1 58 5 = nI m) (hm : m < 3001) : mjF (d + 2) 162 [.ref 58, .ref 1, .int (nI fr), .int (nI n)] (mjW0 s) = if (scD (s.1 1) k 0 fr).2 - fr ≤ 9 then some (some (.int (nI (scD (s.1 1) k 0 fr).2)), mjW0 (tkPut s m 4 (nI fr) (scD (s.1 1) k 0 fr).1)) else some (some (.int (-1)), mjW0 s) := by
  have r := scD_le (s.1 1) k 0 fr
  rw [e_162]
  unfold f_162
  unfold b_162_0
  rw [lq_162 hn k fr mjN 0 hk (by unfold mjN; omega)]
  unfold b_162_45
  by_cases g : (scD (s.1 1) k 0 fr).2 - fr ≤ 9
  · rw [if_pos (show nI (scD (s.1 1) k 0 fr).2 - nI fr ≤ (9 : Int32) from (sub_le (c := 9) r.1 (by omega) (by decide)).mpr g), if_pos g, xV_58, x_put hc hm, bN_s]
  · rw [if_neg (show ¬ nI (scD (s.1 1) k 0 fr).2 - nI fr ≤ (9 : Int32) from fun e => g ((sub_le (c := 9) r.1 (by omega) (by decide)).mp e)), if_neg g]
