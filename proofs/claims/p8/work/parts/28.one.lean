/-! ===== one token ===== -/
theorem by_chk : (List.range 128).all (fun j => decide (((nI j).toUInt32 % 65536).toInt32 = nI j) && decide ((nI j).toInt8.toInt32 = nI j) && decide (¬ (nI j < 0)) && decide (¬ 255 < nI j)) = true := by decide +kernel
theorem by_nI {b : Int32} (h0 : ¬ b ≤ 0) (h1 : b ≤ 127) : (b.toUInt32 % 65536).toInt32 = b ∧ b.toInt8.toInt32 = b ∧ ¬ b < 0 ∧ ¬ 255 < b := by
  obtain ⟨j, hj, rfl⟩ := nI_of2 (M := 127) (n := 127) rfl (fun e => h0 (Int32.le_of_lt e)) h1
  have k := List.all_eq_true.mp by_chk j (List.mem_range.mpr (by omega))
  simp only [Bool.and_eq_true, decide_eq_true_eq] at k
  exact ⟨k.1.1.1, k.1.1.2, k.1.2, k.2⟩
/-- a sign's token: its kind (0: none), its end -/
def sgT (tx : Nat → Int32) (n fr : Nat) : Int32 × Nat :=
  if fr + 1 < n ∧ tx (fr + 1) = 61 ∧ (tx fr = 61 ∨ tx fr = 33) then (if tx fr = 61 then 200 else 201, fr + 2)
  else if tx fr ≤ 0 ∨ ¬ 0 ≤ ixF (tx fr) 16 0 then (0, n) else (tx fr, fr + 1)
theorem x_sgOne {d n fr m : Nat} {s : mjSt3} (hn : n ≤ 3000) (hf : fr < n) (hc : s.1 58 5 = nI m) (hm : m < 3001) (hb : s.1 1 fr ≤ 127) : b_163_74 (mjF (d + 4)) 58 (nI fr) (s.1 1 fr) (mjW0 s) = if s.1 1 fr ≤ 0 ∨ ¬ 0 ≤ ixF (s.1 1 fr) 16 0 then some (some (.int (-1)), mjW0 s) else some (some (.int (nI (fr + 1))), mjW0 (tkPut s m (s.1 1 fr) (nI fr) 0)) := by
  unfold b_163_74 b_163_90
  by_cases h0 : s.1 1 fr ≤ 0
  · rw [if_pos h0, if_pos (Or.inl h0)]
  · obtain ⟨a1, a2, a3, a4⟩ := by_nI h0 hb
    rw [if_neg h0, show ∀ u : mjU, rS 1000002 u = u from fun u => rfl, a1, x_indexOf _ a3 a4, a2, bI_s]
    by_cases g : 0 ≤ ixF (s.1 1 fr) 16 0
    · rw [if_pos g, if_neg (fun e => e.elim h0 (fun e => e g)), xV_58, x_put hc hm, bN_s, nI_1]
    · rw [if_neg g, if_pos (Or.inr g)]
theorem x_sign {d n fr m : Nat} {s : mjSt3} (hn : n ≤ 3000) (hf : fr < n) (hc : s.1 58 5 = nI m) (hm : m < 3001) (hb : s.1 1 fr ≤ 127) : mjF (d + 5) 163 [.ref 58, .ref 1, .int (nI fr), .int (nI n)] (mjW0 s) = if (sgT (s.1 1) n fr).1 = 0 then some (some (.int (-1)), mjW0 s) else some (some (.int (nI (sgT (s.1 1) n fr).2)), mjW0 (tkPut s m (sgT (s.1 1) n fr).1 (nI fr) 0)) := by
  have one := x_sgOne (d := d) hn hf hc hm hb
  have tail : ∀ P : Prop, (if s.1 1 fr ≤ 0 ∨ ¬ 0 ≤ ixF (s.1 1 fr) 16 0 then some (some (Value.int (-1)), mjW0 s) else some (some (Value.int (nI (fr + 1))), mjW0 (tkPut s m (s.1 1 fr) (nI fr) 0)) : mjU) = if (if s.1 1 fr ≤ 0 ∨ ¬ 0 ≤ ixF (s.1 1 fr) 16 0 then ((0 : Int32), n) else (s.1 1 fr, fr + 1)).1 = 0 then some (some (.int (-1)), mjW0 s) else some (some (.int (nI (if s.1 1 fr ≤ 0 ∨ ¬ 0 ≤ ixF (s.1 1 fr) 16 0 then ((0 : Int32), n) else (s.1 1 fr, fr + 1)).2)), mjW0 (tkPut s m (if s.1 1 fr ≤ 0 ∨ ¬ 0 ≤ ixF (s.1 1 fr) 16 0 then ((0 : Int32), n) else (s.1 1 fr, fr + 1)).1 (nI fr) 0)) := by
    intro _
    by_cases h : s.1 1 fr ≤ 0 ∨ ¬ 0 ≤ ixF (s.1 1 fr) 16 0
    · simp only [if_pos h, ↓reduceIte]
    · have h3 : ¬ s.1 1 fr = 0 := fun e => h (Or.inl (by rw [e]; decide))
      simp only [if_neg h, if_neg h3]
  rw [e_163]
  unfold f_163
  unfold b_163_0 b_163_26
  rw [xa_1, if_pos (mj_in_nI (by omega) (by decide)), nI_clamp (by omega), nI_1]
  have vT : ¬ (fr + 1 < n ∧ s.1 1 (fr + 1) = 61 ∧ (s.1 1 fr = 61 ∨ s.1 1 fr = 33)) → sgT (s.1 1) n fr = if s.1 1 fr ≤ 0 ∨ ¬ 0 ≤ ixF (s.1 1 fr) 16 0 then ((0 : Int32), n) else (s.1 1 fr, fr + 1) := fun h => by
    unfold sgT
    exact if_neg h
  by_cases h1 : fr + 1 < n
  · rw [if_neg (nI_ge h1 (by omega)), xa_1, if_pos (mj_in_nI (by omega) (by decide)), nI_clamp (by omega)]
    by_cases h2 : s.1 1 (fr + 1) = 61
    · rw [if_pos h2]
      unfold b_163_27 b_163_48 b_163_65
      rw [if_neg (by decide)]
      by_cases h3 : s.1 1 fr = 61
      · have v : sgT (s.1 1) n fr = (200, fr + 2) := by
          unfold sgT
          rw [if_pos ⟨h1, h2, Or.inl h3⟩, if_pos h3]
        rw [v, if_pos h3, if_pos h3, xV_58, x_put hc hm, bN_s, if_neg (show ¬ ((200 : Int32) = 0) by decide), show nI fr + (2 : Int32) = nI (fr + 2) from nI_add fr 2]
      · rw [if_neg h3]
        by_cases h4 : s.1 1 fr = 33
        · have v : sgT (s.1 1) n fr = (201, fr + 2) := by
            unfold sgT
            rw [if_pos ⟨h1, h2, Or.inr h4⟩, if_neg h3]
          rw [v, if_pos h4, if_neg h3, xV_58, x_put hc hm, bN_s, if_neg (show ¬ ((201 : Int32) = 0) by decide), show nI fr + (2 : Int32) = nI (fr + 2) from nI_add fr 2]
        · rw [if_neg h4, one, vT (fun e => e.2.2.elim h3 h4)]
          exact tail True
    · rw [if_neg h2]
      unfold b_163_27
      rw [if_pos rfl, one, vT (fun e => h2 e.2.1)]
      exact tail True
  · rw [if_pos (nI_le (by omega) (by omega))]
    unfold b_163_27
    rw [if_pos rfl, one, vT (fun e => h1 e.1)]
    exact tail True
/-- one token of the class: its kind, its key, where the next is sought -/
def c1 (tx : Nat → Int32) (w : Nat → Int64) (n fr : Nat) : Int32 × Int64 × Nat :=
  if isLb (tx fr) = true then (if (scN tx (n - fr) 0 fr).2 - fr ≤ 10 then (if 90 < tx fr then wdF w (scN tx (n - fr) 0 fr).1 16 0 else 2, (scN tx (n - fr) 0 fr).1, (scN tx (n - fr) 0 fr).2) else (1, 0, n))
  else if isDb (tx fr) = true then (if (scD tx (n - fr) 0 fr).2 - fr ≤ 9 then (4, (scD tx (n - fr) 0 fr).1, (scD tx (n - fr) 0 fr).2) else (1, 0, n))
  else if (sgT tx n fr).1 = 0 then (1, 0, n) else ((sgT tx n fr).1, 0, (sgT tx n fr).2)
theorem nI_m1 {a : Nat} (h : a < 2 ^ 31) : ¬ nI a = -1 := fun e => nI_pos h (by rw [e]; decide)
theorem sgT_le (tx : Nat → Int32) {n fr : Nat} (hf : fr < n) : (sgT tx n fr).2 ≤ n := by
  unfold sgT
  by_cases h : fr + 1 < n ∧ tx (fr + 1) = 61 ∧ (tx fr = 61 ∨ tx fr = 33)
  · rw [if_pos h]; show fr + 2 ≤ n; omega
  · rw [if_neg h]
    by_cases g : tx fr ≤ 0 ∨ ¬ 0 ≤ ixF (tx fr) 16 0
    · rw [if_pos g]; exact Nat.le_refl _
    · rw [if_neg g]; exact hf
theorem x_one {d n fr m : Nat} {s : mjSt3} (hn : n ≤ 3000) (hf : fr < n) (hc : s.1 58 5 = nI m) (hm : m < 3001) (hb : s.1 1 fr ≤ 127) : mjF (d + 6) 156 [.ref 58, .ref 1, .int (nI fr), .int (nI n)] (mjW0 s) = some (some (.int (nI (c1 (s.1 1) (s.2.1 59) n fr).2.2)), mjW0 (tkPut s m (c1 (s.1 1) (s.2.1 59) n fr).1 (nI fr) (c1 (s.1 1) (s.2.1 59) n fr).2.1)) := by
  have bad : b_156_54 (mjF (d + 5)) 58 (nI fr) (nI n) (-1) (mjW0 s) = some (some (.int (nI n)), mjW0 (tkPut s m 1 (nI fr) 0)) := by
    unfold b_156_54
    rw [if_pos rfl, xV_58, x_put hc hm, bN_s]
  have good : ∀ (a : Nat) (s' : mjSt3), a ≤ n → b_156_54 (mjF (d + 5)) 58 (nI fr) (nI n) (nI a) (mjW0 s') = some (some (.int (nI a)), mjW0 s') := by
    intro a s' ha
    unfold b_156_54
    rw [if_neg (nI_m1 (by omega))]
  have e : fr + (n - fr) = n := by omega
  rw [e_156]
  unfold f_156
  unfold b_156_0 c1
  rw [xa_1, if_pos (mj_in_nI (by omega) (by decide)), nI_clamp (by omega), x_letter, bI_s]
  by_cases h1 : isLb (s.1 1 fr) = true
  · rw [if_neg (i1 h1), xV_58, x_name hn e hf hc hm]
    simp only [if_pos h1]
    have r := scN_le (s.1 1) (n - fr) 0 fr
    by_cases g : (scN (s.1 1) (n - fr) 0 fr).2 - fr ≤ 10
    · simp only [if_pos g]
      rw [bI_s, good _ _ (by omega)]
    · simp only [if_neg g]
      rw [bI_s, bad]
  · rw [if_pos (i0 h1), x_digit, bI_s]
    simp only [if_neg h1]
    by_cases h2 : isDb (s.1 1 fr) = true
    · rw [if_neg (i1 h2), xV_58, x_number hn e hc hm]
      simp only [if_pos h2]
      have r := scD_le (s.1 1) (n - fr) 0 fr
      by_cases g : (scD (s.1 1) (n - fr) 0 fr).2 - fr ≤ 9
      · simp only [if_pos g]
        rw [bI_s, good _ _ (by omega)]
      · simp only [if_neg g]
        rw [bI_s, bad]
    · rw [if_pos (i0 h2), xV_58, x_sign hn hf hc hm hb]
      simp only [if_neg h2]
      by_cases g : (sgT (s.1 1) n fr).1 = 0
      · simp only [if_pos g]
        rw [bI_s, bad]
      · simp only [if_neg g]
        rw [bI_s, good _ _ (sgT_le _ hf)]
