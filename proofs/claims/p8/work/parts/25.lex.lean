/-! ===== the class's lexer, piece by piece, as functions of the tape ===== -/
def isLb (b : Int32) : Bool := (!decide (b < 97) && decide (b ≤ 122)) || (!decide (b < 65) && !decide (90 < b))
def isDb (b : Int32) : Bool := !decide (b < 48) && !decide (57 < b)
theorem x_letter {d : Nat} {hp : mjH} (b : Int32) : mjF (d + 1) 157 [.int b] hp = some (some (.int (if isLb b = true then 1 else 0)), hp) := by
  rw [e_157]
  unfold f_157
  unfold b_157_0 b_157_12 b_157_24 b_157_28 isLb
  by_cases h1 : b < 97 <;> by_cases h2 : b ≤ 122 <;> by_cases h3 : b < 65 <;> by_cases h4 : 90 < b <;> simp [h1, h2, h3, h4]
theorem x_digit {d : Nat} {hp : mjH} (b : Int32) : mjF (d + 1) 159 [.int b] hp = some (some (.int (if isDb b = true then 1 else 0)), hp) := by
  rw [e_159]
  unfold f_159
  unfold b_159_0 b_159_16 isDb
  by_cases h1 : b < 48 <;> by_cases h2 : 57 < b <;> simp [h1, h2]
def cdC (b : Int32) : Int32 := if b < 97 then (if b < 65 then (b - 48) + 1 else (b - 65) + 11) else (b - 97) + 37
theorem x_spelled {d : Nat} {hp : mjH} (k : Int64) (b : Int32) : mjF (d + 1) 153 [.long k, .int b] hp = some (some (.long (k * 64 + (cdC b).toInt64)), hp) := by
  rw [e_153]
  unfold f_153
  unfold b_153_0 b_153_38 cdC
  by_cases h1 : b < 97
  · by_cases h2 : b < 65
    · simp only [if_pos h1, if_pos h2]
    · simp only [if_pos h1, if_neg h2]
  · simp only [if_neg h1]
/-- behind blanks and notes: k bytes are left, note: in a note -/
def skB (tx : Nat → Int32) : Nat → Bool → Nat → Nat
  | 0, _, i => i
  | k + 1, note, i => if tx i = 10 then skB tx k false (i + 1) else if tx i = 35 then skB tx k true (i + 1) else if note = true then skB tx k note (i + 1) else if tx i = 32 then skB tx k note (i + 1) else i
theorem skB_le (tx : Nat → Int32) : ∀ (k : Nat) (b : Bool) (i : Nat), i ≤ skB tx k b i ∧ skB tx k b i ≤ i + k
  | 0, _, i => ⟨Nat.le_refl _, Nat.le_refl _⟩
  | k + 1, b, i => by
    have r := fun b' => skB_le tx k b' (i + 1)
    unfold skB
    repeat' split
    · exact ⟨by have := (r false).1; omega, by have := (r false).2; omega⟩
    · exact ⟨by have := (r true).1; omega, by have := (r true).2; omega⟩
    · exact ⟨by have := (r b).1; omega, by have := (r b).2; omega⟩
    · exact ⟨by have := (r b).1; omega, by have := (r b).2; omega⟩
    · exact ⟨Nat.le_refl _, by omega⟩
def bit (b : Bool) : Int32 := if b = true then 1 else 0
theorem lq_155 {R : mjR} {n : Nat} {s : mjSt3} (hn : n ≤ 3000) : ∀ (k i q : Nat) (b : Bool), i + k = n → k < q → L_155_5 R q 1 (nI n) (bit b) (nI i) (mjW0 s) = some (some (.int (nI (skB (s.1 1) k b i))), mjW0 s) := by
  intro k
  induction k with
  | zero =>
    intro i q b hi hq
    obtain ⟨q, rfl⟩ : ∃ m, q = m + 1 := ⟨q - 1, by omega⟩
    have e : i = n := by omega
    subst e
    show b_155_5 R (L_155_5 R q) 1 (nI i) (bit b) (nI i) (mjW0 s) = _
    unfold b_155_5 skB
    rw [if_pos (nI_le (Nat.le_refl i) (by omega))]
  | succ k ih =>
    intro i q b hi hq
    obtain ⟨q, rfl⟩ : ∃ m, q = m + 1 := ⟨q - 1, by omega⟩
    show b_155_5 R (L_155_5 R q) 1 (nI n) (bit b) (nI i) (mjW0 s) = _
    unfold b_155_5 skB b_155_55
    rw [if_neg (nI_ge (by omega) (by omega)), xa_1, if_pos (mj_in_nI (by omega) (by decide)), nI_clamp (by omega), nI_1]
    by_cases h1 : s.1 1 i = 10
    · rw [if_pos h1, if_pos h1]
      exact ih (i + 1) q false (by omega) (by omega)
    · rw [if_neg h1, if_neg h1]
      by_cases h2 : s.1 1 i = 35
      · rw [if_pos h2, if_pos h2]
        exact ih (i + 1) q true (by omega) (by omega)
      · rw [if_neg h2, if_neg h2]
        cases b with
        | true =>
          rw [if_neg (show ¬ bit true = 0 by decide), if_pos rfl]
          exact ih (i + 1) q true (by omega) (by omega)
        | false =>
          rw [if_pos (show bit false = 0 by decide), if_neg (show ¬ (false = true) by decide)]
          by_cases h3 : s.1 1 i = 32
          · rw [if_pos h3, if_pos h3]
            exact ih (i + 1) q false (by omega) (by omega)
          · rw [if_neg h3, if_neg h3]
theorem x_blanks {d n i k : Nat} {s : mjSt3} (hn : n ≤ 3000) (hi : i + k = n) : mjF (d + 1) 155 [.ref 1, .int (nI i), .int (nI n)] (mjW0 s) = some (some (.int (nI (skB (s.1 1) k false i))), mjW0 s) := by
  rw [e_155]
  unfold f_155
  unfold b_155_0
  exact lq_155 hn k i mjN false hi (by unfold mjN; omega)
/-- a token is laid at the end of the rows -/
def tkPut (s : mjSt3) (n : Nat) (kd pl : Int32) (key : Int64) : mjSt3 := uI (uI (uL (uI (uI s 60 (upd (s.1 60) n kd)) 61 (upd (s.1 61) n pl)) 62 (vp_updL (s.2.1 62) n key)) 63 (upd (s.1 63) n 0)) 58 (upd (s.1 58) 5 (nI (n + 1)))
theorem x_put {d n : Nat} {s : mjSt3} (hc : s.1 58 5 = nI n) (hn : n < 3001) (kd pl : Int32) (key : Int64) : mjF (d + 1) 161 [.ref 58, .int kd, .int pl, .long key] (mjW0 s) = some (none, mjW0 (tkPut s n kd pl key)) := by
  have g : mj_in (nI n) 3001 = true := mj_in_nI hn (by decide)
  have c : (nI n).toNatClampNeg = n := nI_clamp (by omega)
  rw [e_161]
  unfold f_161
  unfold b_161_0
  have k3 : ¬ Int32.ofNat 3001 ≤ nI n := nI_ge hn (by decide)
  unfold tkPut
  simp only [xg_58_1, xg_58_2, xg_58_3, xg_58_4, xg_58_5, xN_60, xs_60, xs_61, xs_62, xs_63, xp_58_5, uI_ne, uL_i, uI_l, hc, g, c, if_neg k3, ↓reduceIte, not_false_eq_true, nI_1, Nat.reduceEqDiff]
