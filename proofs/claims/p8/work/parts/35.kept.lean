/-! ===== the reference's words ===== -/
def kS (s : mjSt3) (a b : Int32) : mjSt3 := uI s 97 (upd (upd (s.1 97) 3 a) 6 b)
theorem kS_j (s : mjSt3) (a b : Int32) (j : Nat) (h3 : ¬ j = 3) (h6 : ¬ j = 6) : (kS s a b).1 97 j = s.1 97 j := by
  unfold kS
  rw [uI_same]
  exact (if_neg h6).trans (if_neg h3)
theorem kS_3 (s : mjSt3) (a b : Int32) : (kS s a b).1 97 3 = a := by
  unfold kS
  rw [uI_same]
  exact (if_neg (by decide)).trans (if_pos rfl)
theorem kS_2 (s : mjSt3) (a b : Int32) : (kS s a b).2 = s.2 := rfl
theorem p_k3 {s : mjSt3} {a b x : Int32} {k : mjH → mjU} : pI (mjW0 (kS s a b)) 97 12 3 x k = k (mjW0 (kS s x b)) := by
  rw [xp_97_3]
  congr 2
  unfold kS
  rw [uI_same, uI_uI, upd_sw _ _ _ (show ¬ 6 = 3 by decide), upd_upd]
theorem p_k6 {s : mjSt3} {a b x : Int32} {k : mjH → mjU} : pI (mjW0 (kS s a b)) 97 12 6 x k = k (mjW0 (kS s a x)) := by
  rw [xp_97_6]
  congr 2
  unfold kS
  rw [uI_same, uI_uI, upd_upd]
/-- the word's number: sort and number behind keptWord -/
def kwF (kp : Nat → Int64) (nm : Int64) : Nat → Nat → Int32 × Int32 → Int32 × Int32
  | 0, _, z => z
  | k + 1, i, z => kwF kp nm k (i + 1) (if kp i = nm then (5, nI i) else z)
theorem L264_S (R : mjR) (n : Nat) (a : Nat) (c : Int32) (hp : mjH) : L_264_2 R (n + 1) a c hp = b_264_2 R (L_264_2 R n) a c hp := rfl
theorem lq_264 {d : Nat} {s : mjSt3} : ∀ (k i q : Nat) (z : Int32 × Int32), i + k = 17 → k < q → L_264_2 (mjF d) q 97 (nI i) (mjW0 (kS s z.1 z.2)) = some (none, mjW0 (kS s (kwF (s.2.1 99) (s.2.1 97 7) k i z).1 (kwF (s.2.1 99) (s.2.1 97 7) k i z).2)) := by
  intro k
  induction k with
  | zero =>
    intro i q z hi hq
    obtain ⟨q, rfl⟩ : ∃ m, q = m + 1 := ⟨q - 1, by omega⟩
    have e : i = 17 := by omega
    subst e
    rw [L264_S]
    unfold b_264_2
    rw [if_pos (by decide)]
    rfl
  | succ k ih =>
    intro i q z hi hq
    obtain ⟨q, rfl⟩ : ∃ m, q = m + 1 := ⟨q - 1, by omega⟩
    rw [L264_S]
    unfold b_264_2 b_264_35 kwF
    rw [if_neg (show ¬ (16 : Int32) < nI i from nI_nlt (b := i) (a := 16) (by omega) (by decide)), xg_97_8, xa_99, if_pos (mj_in_nI (by omega) (by decide)), nI_clamp (by omega), xg_97_7, kS_2]
    by_cases h : s.2.1 99 i = s.2.1 97 7
    · rw [if_pos ((lg_cmp_eq _ _).mpr h), if_pos h, p_k3, p_k6, nI_1]
      exact ih (i + 1) q (5, nI i) (by omega) (by omega)
    · rw [if_neg (fun e => h ((lg_cmp_eq _ _).mp e)), if_neg h, nI_1]
      exact ih (i + 1) q z (by omega) (by omega)
theorem kS_self (s : mjSt3) : kS s (s.1 97 3) (s.1 97 6) = s := by
  unfold kS
  have e : upd (upd (s.1 97) 3 (s.1 97 3)) 6 (s.1 97 6) = s.1 97 := by
    funext i
    unfold upd
    by_cases h : i = 6
    · rw [if_pos h, h]
    · rw [if_neg h]
      by_cases g : i = 3
      · rw [if_pos g, g]
      · rw [if_neg g]
  rw [e, uI_self]
theorem x_kept {d : Nat} {s : mjSt3} : mjF (d + 1) 264 [.ref 97] (mjW0 s) = some (none, mjW0 (kS s (kwF (s.2.1 99) (s.2.1 97 7) 16 1 (s.1 97 3, s.1 97 6)).1 (kwF (s.2.1 99) (s.2.1 97 7) 16 1 (s.1 97 3, s.1 97 6)).2)) := by
  rw [e_264]
  unfold f_264
  unfold b_264_0
  have k := lq_264 (d := d) (s := s) 16 1 mjN (s.1 97 3, s.1 97 6) (by omega) (by unfold mjN; omega)
  rw [kS_self] at k
  exact k
