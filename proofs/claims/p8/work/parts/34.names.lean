/-! ===== the reference's names ===== -/
def mS (s : mjSt3) (i : Nat) (w : Int64) : mjSt3 := uL (uI s 97 (upd (s.1 97) 5 (nI i))) 97 (vp_updL (s.2.1 97) 7 w)
theorem mS_5 (s : mjSt3) (i : Nat) (w : Int64) : (mS s i w).1 97 5 = nI i := by
  unfold mS
  rw [uL_i, uI_same]
  exact if_pos rfl
theorem mS_7 (s : mjSt3) (i : Nat) (w : Int64) : (mS s i w).2.1 97 7 = w := by
  unfold mS
  rw [uL_same]
  exact if_pos rfl
theorem mS_j (s : mjSt3) (i : Nat) (w : Int64) (j : Nat) (h5 : ¬ j = 5) : (mS s i w).1 97 j = s.1 97 j := by
  unfold mS
  rw [uL_i, uI_same]
  exact if_neg h5
theorem mS_q (s : mjSt3) (i : Nat) (w : Int64) (q : Nat) (h : ¬ q = 97) : (mS s i w).1 q = s.1 q := if_neg h
theorem vupd_upd (f : Nat → Int64) (j : Nat) (x y : Int64) : vp_updL (vp_updL f j x) j y = vp_updL f j y := by
  funext i
  unfold vp_updL
  by_cases h : i = j
  · rw [if_pos h, if_pos h]
  · rw [if_neg h, if_neg h, if_neg h]
theorem uI_uL (s : mjSt3) (a b : Nat) (f : Nat → Int32) (g : Nat → Int64) : uI (uL s a g) b f = uL (uI s b f) a g := rfl
theorem p_m5 {s : mjSt3} {i j : Nat} {w : Int64} {k : mjH → mjU} : pI (mjW0 (mS s i w)) 97 12 5 (nI j) k = k (mjW0 (mS s j w)) := by
  rw [xp_97_5]
  congr 2
  unfold mS
  rw [uL_i, uI_same, uI_uL, uI_uI, upd_upd]
theorem p_m7 {s : mjSt3} {i : Nat} {v w : Int64} {k : mjH → mjU} : pL (mjW0 (mS s i v)) 97 12 7 w k = k (mjW0 (mS s i w)) := by
  rw [xp_97_7]
  congr 2
  unfold mS
  rw [uL_same, uL_uL, vupd_upd]
theorem by_cod : (List.range 256).all (fun j => decide (cdM (Int32.ofInt ((j : Int) - 128) &&& 255) ≤ 0) == !(isLb (Int32.ofInt ((j : Int) - 128)) || isDb (Int32.ofInt ((j : Int) - 128)))) = true := by decide +kernel
theorem by_cd {b : Int32} (h : byR b) : (cdM (b &&& 255) ≤ 0) ↔ ¬ (isLb b = true ∨ isDb b = true) := by
  obtain ⟨j, hj, rfl⟩ := by_of h
  have k := List.all_eq_true.mp by_cod j (List.mem_range.mpr hj)
  simp only [beq_iff_eq] at k
  generalize isLb (Int32.ofInt ((j : Int) - 128)) = x at k ⊢
  generalize isDb (Int32.ofInt ((j : Int) - 128)) = y at k ⊢
  cases x <;> cases y <;> simpa using k
/-- letters and digits from i on: the code of the first ten behind p, the end -/
def scW (ty : Nat → Int32) (p : Nat) : Nat → Int64 → Nat → Int64 × Nat
  | 0, w, i => (w, i)
  | k + 1, w, i => if isLb (ty i) = true ∨ isDb (ty i) = true then scW ty p k (if 10 ≤ i - p then w else 64 * w + (cdM (ty i &&& 255)).toInt64) (i + 1) else (w, i)
theorem scW_end (ty : Nat → Int32) (p : Nat) : ∀ (k : Nat) (v w : Int64) (i : Nat), (scW ty p k v i).2 = (scN ty k w i).2
  | 0, _, _, _ => rfl
  | k + 1, v, w, i => by
    unfold scW scN
    by_cases h : isLb (ty i) = true
    · rw [if_pos (Or.inl h), if_pos h]
      exact scW_end ty p k _ _ (i + 1)
    · rw [if_neg h]
      by_cases g : isDb (ty i) = true
      · rw [if_pos (Or.inr g), if_pos g]
        exact scW_end ty p k _ _ (i + 1)
      · rw [if_neg (fun e => e.elim h g), if_neg g]
theorem L303_S (R : mjR) (n : Nat) (a : Nat) (c : Int32) (hp : mjH) : L_262_303 R (n + 1) a c hp = b_262_303 R (L_262_303 R n) a c hp := rfl
/-- what next() does behind a name -/
noncomputable def nmE (R : mjR) (c : Int32) (len : Nat) (hp : mjH) : mjU := if len ≤ 10 then (if (90 : Int32) < c then b_262_400 R 97 97 2 hp else b_262_400 R 97 97 1 hp) else b_262_400 R 97 97 6 hp
theorem lq_303 {d n p : Nat} {s : mjSt3} {c : Int32} (hn : n ≤ 3000) (he : s.1 97 2 = nI n) (hp : s.1 97 4 = nI p) (hb : ∀ i, i < n → byR (s.1 98 i)) : ∀ (k i q : Nat) (w : Int64), i + k = n → p ≤ i → k < q → L_262_303 (mjF (d + 1)) q 97 c (mjW0 (mS s i w)) = nmE (mjF (d + 1)) c ((scW (s.1 98) p k w i).2 - p) (mjW0 (mS s (scW (s.1 98) p k w i).2 (scW (s.1 98) p k w i).1)) := by
  intro k
  have stop : ∀ (i : Nat) (w : Int64), p ≤ i → i ≤ n → gI (mjW0 (mS s i w)) 97 12 5 (fun v6 => gI (mjW0 (mS s i w)) 97 12 4 (fun v7 => if (v6 - v7) ≤ (10 : Int32) then (if (90 : Int32) < c then b_262_400 (mjF (d + 1)) 97 97 (2 : Int32) (mjW0 (mS s i w)) else b_262_400 (mjF (d + 1)) 97 97 (1 : Int32) (mjW0 (mS s i w))) else b_262_400 (mjF (d + 1)) 97 97 (6 : Int32) (mjW0 (mS s i w)))) = nmE (mjF (d + 1)) c (i - p) (mjW0 (mS s i w)) := by
    intro i w h1 h2
    rw [xg_97_5, mS_5, xg_97_4, mS_j _ _ _ _ (by decide), hp, pk_sub h1]
    unfold nmE
    by_cases g : i - p ≤ 10
    · rw [if_pos (show nI (i - p) ≤ (10 : Int32) from nI_le (b := 10) g (by decide)), if_pos g]
    · rw [if_neg (show ¬ nI (i - p) ≤ (10 : Int32) from nI_ge (a := 10) (by omega) (by omega)), if_neg g]
  induction k with
  | zero =>
    intro i q w hi hpi hq
    obtain ⟨q, rfl⟩ : ∃ m, q = m + 1 := ⟨q - 1, by omega⟩
    have l : lk ((mS s i w).1 98) n i = 0 := by
      unfold lk
      exact if_neg (by omega)
    rw [L303_S]
    unfold b_262_303
    rw [xg_97_5, mS_5, xV_97, x_look (n := n) ((mS_j _ _ _ _ (by decide)).trans he) hn (by omega), bI_s, l, x_code, bI_s, if_pos (by decide)]
    exact stop i w hpi (by omega)
  | succ k ih =>
    intro i q w hi hpi hq
    obtain ⟨q, rfl⟩ : ∃ m, q = m + 1 := ⟨q - 1, by omega⟩
    have l : lk ((mS s i w).1 98) n i = s.1 98 i &&& 255 := by
      unfold lk
      rw [if_pos (by omega), mS_q _ _ _ _ (by decide)]
    have lookE : mjF (d + 1) 263 [.ref 97, .int (nI i)] (mjW0 (mS s i w)) = some (some (.int (s.1 98 i &&& 255)), mjW0 (mS s i w)) := by
      rw [x_look (n := n) ((mS_j _ _ _ _ (by decide)).trans he) hn (by omega), l]
    have cd := by_cd (hb i (by omega))
    rw [L303_S]
    unfold b_262_303 b_262_356
    rw [xg_97_5, mS_5, xV_97, lookE, bI_s, x_code, bI_s]
    unfold scW
    by_cases h : isLb (s.1 98 i) = true ∨ isDb (s.1 98 i) = true
    · rw [if_neg (fun e => (cd.mp e) h), if_pos h, xg_97_5, mS_5, xg_97_4, mS_j _ _ _ _ (by decide), hp, pk_sub hpi]
      by_cases h9 : 10 ≤ i - p
      · rw [if_pos (show (10 : Int32) ≤ nI (i - p) from nI_le (a := 10) h9 (by omega)), if_pos h9, xg_97_5, mS_5, nI_1, p_m5]
        exact ih (i + 1) q w (by omega) (by omega) (by omega)
      · rw [if_neg (show ¬ (10 : Int32) ≤ nI (i - p) from nI_ge (b := 10) (by omega) (by decide)), if_neg h9, xg_97_7, mS_7, xg_97_5, mS_5, xV_97, lookE, bI_s, x_code, bI_s, p_m7, xg_97_5, mS_5, nI_1, p_m5]
        exact ih (i + 1) q _ (by omega) (by omega) (by omega)
    · rw [if_pos (cd.mpr h), if_neg h]
      exact stop i w hpi (by omega)
