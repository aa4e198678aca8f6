/-! ===== the reference's numbers ===== -/
def nS (s : mjSt3) (i : Nat) (v : Int32) : mjSt3 := uI s 97 (upd (upd (s.1 97) 5 (nI i)) 6 v)
theorem nS_5 (s : mjSt3) (i : Nat) (v : Int32) : (nS s i v).1 97 5 = nI i := by
  unfold nS
  rw [uI_same]
  exact (if_neg (by decide)).trans (if_pos rfl)
theorem nS_6 (s : mjSt3) (i : Nat) (v : Int32) : (nS s i v).1 97 6 = v := by
  unfold nS
  rw [uI_same]
  exact if_pos rfl
theorem nS_j (s : mjSt3) (i : Nat) (v : Int32) (j : Nat) (h5 : ¬ j = 5) (h6 : ¬ j = 6) : (nS s i v).1 97 j = s.1 97 j := by
  unfold nS
  rw [uI_same]
  exact (if_neg h6).trans (if_neg h5)
theorem nS_q (s : mjSt3) (i : Nat) (v : Int32) (q : Nat) (h : ¬ q = 97) : (nS s i v).1 q = s.1 q := if_neg h
theorem upd_sw (f : Nat → Int32) {a b : Nat} (x y : Int32) (h : ¬ a = b) : upd (upd f a x) b y = upd (upd f b y) a x := by
  funext i
  unfold upd
  by_cases h1 : i = a
  · subst h1
    rw [if_neg h, if_pos rfl, if_pos rfl]
  · by_cases h2 : i = b
    · subst h2
      rw [if_pos rfl, if_neg h1, if_pos rfl]
    · rw [if_neg h2, if_neg h1, if_neg h1, if_neg h2]
theorem p_n5 {s : mjSt3} {i j : Nat} {v : Int32} {k : mjH → mjU} : pI (mjW0 (nS s i v)) 97 12 5 (nI j) k = k (mjW0 (nS s j v)) := by
  rw [xp_97_5]
  congr 2
  unfold nS
  rw [uI_same, uI_uI, upd_sw _ _ _ (show ¬ 6 = 5 by decide), upd_upd]
theorem p_n6 {s : mjSt3} {i : Nat} {v w : Int32} {k : mjH → mjU} : pI (mjW0 (nS s i v)) 97 12 6 w k = k (mjW0 (nS s i w)) := by
  rw [xp_97_6]
  congr 2
  unfold nS
  rw [uI_same, uI_uI, upd_upd]
theorem by_dig : (List.range 256).all (fun j => isDb (Int32.ofInt ((j : Int) - 128) &&& 255) == isDb (Int32.ofInt ((j : Int) - 128))) = true := by decide +kernel
theorem by_dg {b : Int32} (h : byR b) : isDb (b &&& 255) = isDb b := by
  obtain ⟨j, hj, rfl⟩ := by_of h
  have k := List.all_eq_true.mp by_dig j (List.mem_range.mpr hj)
  simpa using k
/-- digits from i on: what next() makes of the first nine behind p, the end -/
def scV (ty : Nat → Int32) (p : Nat) : Nat → Int32 → Nat → Int32 × Nat
  | 0, v, i => (v, i)
  | k + 1, v, i => if isDb (ty i) = true then scV ty p k (if 9 ≤ i - p then v else 10 * v + (ty i &&& 255) - 48) (i + 1) else (v, i)
theorem scV_end (ty : Nat → Int32) (p : Nat) : ∀ (k : Nat) (v : Int32) (w : Int64) (i : Nat), (scV ty p k v i).2 = (scD ty k w i).2
  | 0, _, _, _ => rfl
  | k + 1, v, w, i => by
    unfold scV scD
    by_cases h : isDb (ty i) = true
    · rw [if_pos h, if_pos h]
      exact scV_end ty p k _ _ (i + 1)
    · rw [if_neg h, if_neg h]
theorem L188_S (R : mjR) (n : Nat) (a : Nat) (hp : mjH) : L_262_188 R (n + 1) a hp = b_262_188 R (L_262_188 R n) a hp := rfl
theorem isD_iff {b : Int32} : isDb b = true ↔ ¬ b < 48 ∧ ¬ 57 < b := by
  unfold isDb
  simp
theorem lq_188 {d n p : Nat} {s : mjSt3} (hn : n ≤ 3000) (he : s.1 97 2 = nI n) (hp : s.1 97 4 = nI p) (hb : ∀ i, i < n → byR (s.1 98 i)) : ∀ (k i q : Nat) (v : Int32), i + k = n → p ≤ i → k < q → L_262_188 (mjF (d + 1)) q 97 (mjW0 (nS s i v)) = b_262_264 (mjF (d + 1)) 97 (mjW0 (nS s (scV (s.1 98) p k v i).2 (scV (s.1 98) p k v i).1)) := by
  intro k
  induction k with
  | zero =>
    intro i q v hi hpi hq
    obtain ⟨q, rfl⟩ : ∃ m, q = m + 1 := ⟨q - 1, by omega⟩
    have l : lk ((nS s i v).1 98) n i = 0 := by
      unfold lk
      exact if_neg (by omega)
    rw [L188_S]
    unfold b_262_188
    rw [xg_97_5, nS_5, xV_97, x_look (n := n) ((nS_j _ _ _ _ (by decide) (by decide)).trans he) hn (by omega), bI_s, l, if_pos (by decide)]
    rfl
  | succ k ih =>
    intro i q v hi hpi hq
    obtain ⟨q, rfl⟩ : ∃ m, q = m + 1 := ⟨q - 1, by omega⟩
    have l : lk ((nS s i v).1 98) n i = s.1 98 i &&& 255 := by
      unfold lk
      rw [if_pos (by omega), nS_q _ _ _ _ (by decide)]
    have lookE : mjF (d + 1) 263 [.ref 97, .int (nI i)] (mjW0 (nS s i v)) = some (some (.int (s.1 98 i &&& 255)), mjW0 (nS s i v)) := by
      rw [x_look (n := n) ((nS_j _ _ _ _ (by decide) (by decide)).trans he) hn (by omega), l]
    have dg := by_dg (hb i (by omega))
    rw [L188_S]
    unfold b_262_188 b_262_251
    rw [xg_97_5, nS_5, xV_97, lookE, bI_s]
    unfold scV
    by_cases h : isDb (s.1 98 i) = true
    · obtain ⟨g1, g2⟩ := isD_iff.mp (dg.trans h)
      rw [if_pos h, if_neg g1, xg_97_5, nS_5, xV_97, lookE, bI_s, if_neg g2, xg_97_5, nS_5, xg_97_4, nS_j _ _ _ _ (by decide) (by decide), hp, pk_sub hpi]
      by_cases h9 : 9 ≤ i - p
      · rw [if_pos (show (9 : Int32) ≤ nI (i - p) from nI_le (a := 9) h9 (by omega)), if_pos h9, xg_97_5, nS_5, nI_1, p_n5]
        exact ih (i + 1) q v (by omega) (by omega) (by omega)
      · rw [if_neg (show ¬ (9 : Int32) ≤ nI (i - p) from nI_ge (b := 9) (by omega) (by decide)), if_neg h9, xg_97_6, nS_6, xg_97_5, nS_5, xV_97, lookE, bI_s, p_n6, xg_97_5, nS_5, nI_1, p_n5]
        exact ih (i + 1) q _ (by omega) (by omega) (by omega)
    · have g : ¬ (¬ (s.1 98 i &&& 255) < 48 ∧ ¬ 57 < (s.1 98 i &&& 255)) := fun e => h (dg.symm.trans (isD_iff.mpr e))
      rw [if_neg h]
      by_cases g1 : (s.1 98 i &&& 255) < 48
      · rw [if_pos g1]
      · have g2 : 57 < (s.1 98 i &&& 255) := Classical.byContradiction (fun e => g ⟨g1, e⟩)
        rw [if_neg g1, xg_97_5, nS_5, xV_97, lookE, bI_s, if_pos g2]
