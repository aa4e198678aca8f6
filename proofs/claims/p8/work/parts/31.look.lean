/-! ===== the reference's lexer: look, code, blanks ===== -/
def lk (ty : Nat → Int32) (n i : Nat) : Int32 := if i < n then ty i &&& 255 else 0
theorem x_look {d n i : Nat} {s : mjSt3} (he : s.1 97 2 = nI n) (hn : n ≤ 3000) (hi : i < 2 ^ 31) : mjF (d + 1) 263 [.ref 97, .int (nI i)] (mjW0 s) = some (some (.int (lk (s.1 98) n i)), mjW0 s) := by
  rw [e_263]
  unfold f_263
  unfold b_263_0 lk
  rw [xg_97_2, he]
  by_cases h : i < n
  · rw [if_neg (nI_ge h (by omega)), if_pos h, xg_97_0, xa_98, if_pos (mj_in_nI (by omega) (by decide)), nI_clamp hi]
  · rw [if_pos (nI_le (by omega) hi), if_neg h]
def cdM (b : Int32) : Int32 := if ¬ b < 97 ∧ ¬ 122 < b then (b - 97) + 1 else if ¬ b < 65 ∧ ¬ 90 < b then (b - 65) + 27 else if ¬ b < 48 ∧ ¬ 57 < b then (b - 48) + 53 else 0
theorem x_code {d : Nat} {hp : mjH} (b : Int32) : mjF (d + 1) 228 [.int b] hp = some (some (.int (cdM b)), hp) := by
  rw [e_228]
  unfold f_228
  unfold b_228_0 b_228_21 b_228_43 b_228_65 cdM
  by_cases h1 : b < 97 <;> by_cases h2 : 122 < b <;> by_cases h3 : b < 65 <;> by_cases h4 : 90 < b <;> by_cases h5 : b < 48 <;> by_cases h6 : 57 < b <;> simp [h1, h2, h3, h4, h5, h6]
def goAt (s : mjSt3) (i : Nat) : mjSt3 := uI s 97 (upd (s.1 97) 4 (nI i))
theorem goAt_4 (s : mjSt3) (i : Nat) : (goAt s i).1 97 4 = nI i := by
  unfold goAt
  rw [uI_same]
  exact if_pos rfl
theorem goAt_j (s : mjSt3) (i j : Nat) (h : ¬ j = 4) : (goAt s i).1 97 j = s.1 97 j := by
  unfold goAt
  rw [uI_same]
  exact if_neg h
theorem goAt_q (s : mjSt3) (i q : Nat) (h : ¬ q = 97) : (goAt s i).1 q = s.1 q := if_neg h
theorem upd_upd (f : Nat → Int32) (j : Nat) (x y : Int32) : upd (upd f j x) j y = upd f j y := by
  funext i
  unfold upd
  by_cases h : i = j
  · rw [if_pos h, if_pos h]
  · rw [if_neg h, if_neg h, if_neg h]
theorem goAt_goAt (s : mjSt3) (i j : Nat) : goAt (goAt s i) j = goAt s j := by
  unfold goAt
  rw [uI_same, uI_uI, upd_upd]
theorem p_at {s : mjSt3} {i j : Nat} {k : mjH → mjU} : pI (mjW0 (goAt s i)) 97 12 4 (nI j) k = k (mjW0 (goAt s j)) := by
  rw [xp_97_4]
  congr 2
  exact goAt_goAt s i j
/-- bytes told apart: as 0 to 255 they are 10, 32, 35, 61 .. just where they are so as -128 to 127 -/
def byR (b : Int32) : Prop := ¬ b < -128 ∧ b ≤ 127
theorem by_255 : (List.range 256).all (fun j => [10, 32, 35, 61, 33].all (fun c => decide ((Int32.ofInt ((j : Int) - 128) &&& 255 = c) ↔ (Int32.ofInt ((j : Int) - 128) = c)))) = true := by decide +kernel
theorem by_of {b : Int32} (h : byR b) : ∃ j : Nat, j < 256 ∧ b = Int32.ofInt ((j : Int) - 128) := by
  obtain ⟨h1, h2⟩ := h
  have a : (-128 : Int) ≤ b.toInt := by
    have := Int32.le_iff_toInt_le.mp (Int32.not_lt.mp h1)
    simpa using this
  have c : b.toInt ≤ 127 := by
    have := Int32.le_iff_toInt_le.mp h2
    simpa using this
  refine ⟨(b.toInt + 128).toNat, by omega, ?_⟩
  have e : (((b.toInt + 128).toNat : Nat) : Int) - 128 = b.toInt := by omega
  rw [e]
  exact (Int32.ofInt_toInt b).symm
theorem by_eq {b c : Int32} (h : byR b) (hc : c ∈ ([10, 32, 35, 61, 33] : List Int32)) : (b &&& 255 = c) ↔ b = c := by
  obtain ⟨j, hj, rfl⟩ := by_of h
  have k := List.all_eq_true.mp (List.all_eq_true.mp by_255 j (List.mem_range.mpr hj)) c hc
  simpa using k
