/-! ===== words, names, signs: one token cut ===== -/
/-- the number of the WORD, from word i on, k left; 3: a NAME -/
def wdF (w : Nat → Int64) (key : Int64) : Nat → Nat → Int32
  | 0, _ => 3
  | k + 1, i => if w i = key then 5 + nI i else wdF w key k (i + 1)
theorem lq_160 {d : Nat} {s : mjSt3} (key : Int64) : ∀ (k i q : Nat), i + k = 16 → k < q → L_160_2 (mjF d) q 58 key (nI i) (mjW0 s) = some (some (.int (wdF (s.2.1 59) key k i)), mjW0 s) := by
  intro k
  induction k with
  | zero =>
    intro i q hi hq
    obtain ⟨q, rfl⟩ : ∃ m, q = m + 1 := ⟨q - 1, by omega⟩
    have e : i = 16 := by omega
    subst e
    rfl
  | succ k ih =>
    intro i q hi hq
    obtain ⟨q, rfl⟩ : ∃ m, q = m + 1 := ⟨q - 1, by omega⟩
    show b_160_2 (mjF d) (L_160_2 (mjF d) q) 58 key (nI i) (mjW0 s) = _
    unfold b_160_2 wdF
    rw [if_neg (show ¬ (16 : Int32) ≤ nI i from nI_ge (b := 16) (by omega) (by decide)), xg_58_0, xa_59, if_pos (mj_in_nI (by omega) (by decide)), nI_clamp (by omega), nI_1]
    by_cases h : s.2.1 59 i = key
    · rw [if_pos ((lg_cmp_eq _ _).mpr h), if_pos h]
    · rw [if_neg (fun e => h ((lg_cmp_eq _ _).mp e)), if_neg h]
      exact ih (i + 1) q (by omega) (by omega)
theorem x_word {d : Nat} {s : mjSt3} (key : Int64) : mjF (d + 1) 160 [.ref 58, .long key] (mjW0 s) = some (some (.int (wdF (s.2.1 59) key 16 0)), mjW0 s) := by
  rw [e_160]
  unfold f_160
  unfold b_160_0
  exact lq_160 key 16 0 mjN (by omega) (by unfold mjN; omega)
/-- cutName: NONE, or the end and a token more -/
theorem x_name {d n fr k m : Nat} {s : mjSt3} (hn : n ≤ 3000) (hk : fr + k = n) (hf : fr < n) (hc : s.1 58 5 = nI m) (hm : m < 3001) : mjF (d + 2) 158 [.ref 58, .ref 1, .int (nI fr), .int (nI n)] (mjW0 s) = if (scN (s.1 1) k 0 fr).2 - fr ≤ 10 then some (some (.int (nI (scN (s.1 1) k 0 fr).2)), mjW0 (tkPut s m (if 90 < s.1 1 fr then wdF (s.2.1 59) (scN (s.1 1) k 0 fr).1 16 0 else 2) (nI fr) (scN (s.1 1) k 0 fr).1)) else some (some (.int (-1)), mjW0 s) := by
  have r := scN_le (s.1 1) k 0 fr
  rw [e_158]
  unfold f_158
  unfold b_158_0
  rw [lq_158 hn k fr mjN 0 hk (by unfold mjN; omega)]
  unfold b_158_49 b_158_79
  by_cases g : (scN (s.1 1) k 0 fr).2 - fr ≤ 10
  · rw [if_pos (show nI (scN (s.1 1) k 0 fr).2 - nI fr ≤ (10 : Int32) from (sub_le (c := 10) r.1 (by omega) (by decide)).mpr g), if_pos g, xa_1, if_pos (mj_in_nI (by omega) (by decide)), nI_clamp (by omega)]
    by_cases h : (90 : Int32) < s.1 1 fr
    · rw [if_pos h, if_pos h, xV_58, x_word, bI_s, xV_58, x_put hc hm, bN_s]
    · rw [if_neg h, if_neg h, xV_58, x_put hc hm, bN_s]
  · rw [if_neg (show ¬ nI (scN (s.1 1) k 0 fr).2 - nI fr ≤ (10 : Int32) from fun e => g ((sub_le (c := 10) r.1 (by omega) (by decide)).mp e)), if_neg g]
/-- the SIGNS' bytes -/
def SG (i : Nat) : Int32 := (mjKb.getD 1 []).getD i 0
theorem xa_sg {s : mjSt3} {i : Int32} {k : Int32 → mjU} : aB (mjW0 s) 1000003 i k = if mj_in i 16 = true then k (SG i.toNatClampNeg) else none := by
  unfold aB
  rw [show (mjW0 s)[(1000003 : Nat)]? = none by rw [mjW0, mjHT_get]; rfl]
  dsimp only
  rw [show mjKa 1000003 = some 1 from rfl]
  dsimp only
  rw [show mjKl.getD 1 0 = 16 from rfl]
  cases mj_in i 16 <;> rfl
theorem xN_sg {s : mjSt3} {k : Int32 → mjU} : aN (mjW0 s) 1000003 k = k 16 := by
  unfold aN
  rw [show (mjW0 s)[(1000003 : Nat)]? = none by rw [mjW0, mjHT_get]; rfl]
  rfl
def ixF (c : Int32) : Nat → Nat → Int32
  | 0, _ => -1
  | k + 1, i => if SG i = c then nI i else ixF c k (i + 1)
theorem lq_367 {d : Nat} {s : mjSt3} (c : Int32) : ∀ (k i q : Nat), i + k = 16 → k < q → L_367_7 (mjF d) q 1000003 16 c (nI i) (mjW0 s) = some (some (.int (ixF c k i)), mjW0 s) := by
  intro k
  induction k with
  | zero =>
    intro i q hi hq
    obtain ⟨q, rfl⟩ : ∃ m, q = m + 1 := ⟨q - 1, by omega⟩
    have e : i = 16 := by omega
    subst e
    rfl
  | succ k ih =>
    intro i q hi hq
    obtain ⟨q, rfl⟩ : ∃ m, q = m + 1 := ⟨q - 1, by omega⟩
    show b_367_7 (mjF d) (L_367_7 (mjF d) q) 1000003 16 c (nI i) (mjW0 s) = _
    unfold b_367_7 ixF
    rw [if_neg (show ¬ (16 : Int32) ≤ nI i from nI_ge (b := 16) (by omega) (by decide)), xa_sg, if_pos (mj_in_nI (by omega) (by decide)), nI_clamp (by omega), nI_1]
    by_cases h : SG i = c
    · rw [if_pos h, if_pos h]
    · rw [if_neg h, if_neg h]
      exact ih (i + 1) q (by omega) (by omega)
theorem x_367 {d : Nat} {s : mjSt3} (c : Int32) : mjF (d + 1) 367 [.ref 1000003, .int c, .int 0, .int 16] (mjW0 s) = some (some (.int (ixF c.toInt8.toInt32 16 0)), mjW0 s) := by
  rw [e_367]
  unfold f_367
  unfold b_367_0
  exact lq_367 _ 16 0 mjN (by omega) (by unfold mjN; omega)
theorem x_365 {d : Nat} {s : mjSt3} (c : Int32) (h0 : ¬ c < 0) (h1 : ¬ 255 < c) : mjF (d + 2) 365 [.ref 1000003, .int c, .int 0, .int 16] (mjW0 s) = some (some (.int (ixF c.toInt8.toInt32 16 0)), mjW0 s) := by
  have e6 : mjF (d + 1) 366 [.int c] (mjW0 s) = some (some (.int 1), mjW0 s) := by
    rw [e_366]
    unfold f_366
    unfold b_366_0
    rw [if_neg h0, if_neg h1]
  rw [e_365]
  unfold f_365
  unfold b_365_0
  rw [e6, bI_s, if_neg (by decide), q_max, bI_s, xN_sg, q_min, bI_s]
  have a1 : (if (0 : Int32) ≤ 0 then (0 : Int32) else 0) = 0 := by decide
  have a2 : (if (16 : Int32) ≤ 16 then (16 : Int32) else 16) = 16 := by decide
  rw [a1, a2, if_pos (by decide), x_367, bI_s]
theorem x_indexOf {d : Nat} {s : mjSt3} (c : Int32) (h0 : ¬ c < 0) (h1 : ¬ 255 < c) : mjF (d + 4) 361 [.ref 1000002, .int c] (mjW0 s) = some (some (.int (ixF c.toInt8.toInt32 16 0)), mjW0 s) := by
  have e1 : ∀ d : Nat, mjF (d + 1) 359 [.ref 1000002] (mjW0 s) = some (some (.int 1), mjW0 s) := fun d => rfl
  have e2 : mjF (d + 2) 356 [.ref 1000002] (mjW0 s) = some (some (.int 16), mjW0 s) := by
    rw [e_356]
    unfold f_356
    unfold b_356_0
    rw [show ∀ k : Nat → mjU, gSv 1000002 k = k 1000003 from fun k => rfl, xN_sg]
    rfl
  have e3 : mjF (d + 3) 362 [.ref 1000002, .int c, .int 0] (mjW0 s) = some (some (.int (ixF c.toInt8.toInt32 16 0)), mjW0 s) := by
    rw [e_362]
    unfold f_362
    unfold b_362_0
    have rs : ∀ u : mjU, rS 1000002 u = u := fun u => rfl
    rw [rs, e1, bI_s, if_neg (by decide), show ∀ k : Nat → mjU, gSv 1000002 k = k 1000003 from fun k => rfl, rs, e2, bI_s, x_365 c h0 h1, bI_s]
  rw [e_361]
  unfold f_361
  unfold b_361_0
  have rs : ∀ u : mjU, rS 1000002 u = u := fun u => rfl
  rw [rs, e3, bI_s]
