/-! ===== the reference's blanks are the class's ===== -/
def skN (ty : Nat → Int32) : Nat → Nat → Nat
  | 0, i => i
  | k + 1, i => if ty i = 10 then i else skN ty k (i + 1)
theorem skN_le (ty : Nat → Int32) : ∀ (k i : Nat), i ≤ skN ty k i ∧ skN ty k i ≤ i + k
  | 0, i => ⟨Nat.le_refl _, Nat.le_refl _⟩
  | k + 1, i => by
    have r := skN_le ty k (i + 1)
    unfold skN
    by_cases h : ty i = 10
    · rw [if_pos h]; omega
    · rw [if_neg h]; omega
theorem skB_note (ty : Nat → Int32) : ∀ (k i : Nat), skB ty k true i = skB ty (i + k - skN ty k i) false (skN ty k i)
  | 0, i => by
    show i = skB ty (i + 0 - i) false i
    rw [show i + 0 - i = 0 by omega]
    rfl
  | k + 1, i => by
    by_cases h : ty i = 10
    · have e : skN ty (k + 1) i = i := by
        unfold skN
        exact if_pos h
      rw [e, show i + (k + 1) - i = k + 1 by omega]
      unfold skB
      rw [if_pos h, if_pos h]
    · have e : skN ty (k + 1) i = skN ty k (i + 1) := by
        conv => lhs; unfold skN
        exact if_neg h
      rw [e, show i + (k + 1) = i + 1 + k by omega, ← skB_note ty k (i + 1)]
      conv => lhs; unfold skB
      rw [if_neg h, if_pos rfl, ite_self]
theorem L71_S (R : mjR) (k10 : Nat → Int32 → mjH → mjU) (n : Nat) (a : Nat) (b : Int32) (hp : mjH) : L_262_71 R k10 (n + 1) a b hp = b_262_71 R k10 (L_262_71 R k10 n) a b hp := rfl
theorem L10_S (R : mjR) (n : Nat) (a : Nat) (b : Int32) (hp : mjH) : L_262_10 R (n + 1) a b hp = b_262_10 R (L_262_10 R n) a b hp := rfl
theorem lq_71 {d n : Nat} {s : mjSt3} {k10 : Nat → Int32 → mjH → mjU} {b : Int32} (hn : n ≤ 3000) (he : s.1 97 2 = nI n) (hb : ∀ i, i < n → byR (s.1 98 i)) : ∀ (k i q : Nat), i + k = n → k < q → L_262_71 (mjF (d + 1)) k10 q 97 b (mjW0 (goAt s i)) = k10 97 b (mjW0 (goAt s (skN (s.1 98) k i))) := by
  intro k
  induction k with
  | zero =>
    intro i q hi hq
    obtain ⟨q, rfl⟩ : ∃ m, q = m + 1 := ⟨q - 1, by omega⟩
    have e : i = n := by omega
    rw [L71_S]
    unfold b_262_71 b_262_118
    rw [xg_97_4, goAt_4, xg_97_2, goAt_j _ _ _ (by decide), he, if_pos (nI_le (by omega) (by omega))]
    rfl
  | succ k ih =>
    intro i q hi hq
    obtain ⟨q, rfl⟩ : ∃ m, q = m + 1 := ⟨q - 1, by omega⟩
    have l : lk ((goAt s i).1 98) n i = s.1 98 i &&& 255 := by
      unfold lk
      rw [if_pos (by omega), goAt_q _ _ _ (by decide)]
    rw [L71_S]
    unfold b_262_71 b_262_118
    rw [xg_97_4, goAt_4, xg_97_2, goAt_j _ _ _ (by decide), he, if_neg (nI_ge (by omega) (by omega)), xg_97_4, goAt_4, xV_97, x_look (n := n) ((goAt_j _ _ _ (by decide)).trans he) hn (by omega), bI_s, l]
    unfold skN
    by_cases h : s.1 98 i = 10
    · rw [if_pos ((by_eq (hb i (by omega)) (by decide)).mpr h), if_pos h]
    · rw [if_neg (fun e => h ((by_eq (hb i (by omega)) (by decide)).mp e)), if_neg h, xg_97_4, goAt_4, nI_1, p_at]
      exact ih (i + 1) q (by omega) (by omega)
/-- what next() does behind the blanks -/
noncomputable def nxE (R : mjR) (z : mjSt3) : mjU := b_262_10 R (fun _ _ _ => none) 97 0 (mjW0 z)
theorem nxE_any {R : mjR} {k10 : Nat → Int32 → mjH → mjU} {z : mjSt3} : b_262_10 R k10 97 0 (mjW0 z) = nxE R z := by
  unfold nxE b_262_10
  rw [if_pos rfl, if_pos rfl]
theorem lq_10 {d n : Nat} {s : mjSt3} (hn : n ≤ 3000) (he : s.1 97 2 = nI n) (hb : ∀ i, i < n → byR (s.1 98 i)) : ∀ (K k i q : Nat), k ≤ K → i + k = n → k + 1 < q → L_262_10 (mjF (d + 1)) q 97 1 (mjW0 (goAt s i)) = nxE (mjF (d + 1)) (goAt s (skB (s.1 98) k false i)) := by
  intro K
  induction K with
  | zero =>
    intro k i q hK hi hq
    obtain ⟨q, rfl⟩ : ∃ m, q = m + 1 + 1 := ⟨q - 2, by omega⟩
    have e0 : k = 0 := by omega
    subst e0
    rw [L10_S]
    unfold b_262_10 b_262_56 b_262_57
    rw [if_neg (by decide), xg_97_4, goAt_4, xV_97, x_look (n := n) ((goAt_j _ _ _ (by decide)).trans he) hn (by omega), bI_s, xg_97_4, goAt_4, xg_97_2, goAt_j _ _ _ (by decide), he, if_pos (nI_le (by omega) (by omega)), if_pos rfl, L10_S]
    exact nxE_any
  | succ K ih =>
    intro k i q hK hi hq
    obtain ⟨q, rfl⟩ : ∃ m, q = m + 1 + 1 := ⟨q - 2, by omega⟩
    cases k with
    | zero => exact ih 0 i (q + 1 + 1) (by omega) hi hq
    | succ k =>
      have l : lk ((goAt s i).1 98) n i = s.1 98 i &&& 255 := by
        unfold lk
        rw [if_pos (by omega), goAt_q _ _ _ (by decide)]
      have B := hb i (by omega)
      have out : b_262_56 (mjF (d + 1)) (L_262_10 (mjF (d + 1)) (q + 1)) 97 (s.1 98 i &&& 255) (mjW0 (goAt s i)) = nxE (mjF (d + 1)) (goAt s i) := by
        unfold b_262_56 b_262_57
        rw [if_pos rfl, L10_S]
        exact nxE_any
      have step : ¬ (s.1 98 i &&& 255) = 35 → b_262_52 (mjF (d + 1)) (L_262_10 (mjF (d + 1)) (q + 1)) 97 (s.1 98 i &&& 255) (mjW0 (goAt s i)) = nxE (mjF (d + 1)) (goAt s (skB (s.1 98) k false (i + 1))) := by
        intro h
        unfold b_262_52 b_262_57 b_262_118
        rw [if_neg (by decide), if_neg h, xg_97_4, goAt_4, nI_1, p_at]
        exact ih k (i + 1) (q + 1) (by omega) (by omega) (by omega)
      rw [L10_S]
      unfold b_262_10
      rw [if_neg (by decide), xg_97_4, goAt_4, xV_97, x_look (n := n) ((goAt_j _ _ _ (by decide)).trans he) hn (by omega), bI_s, xg_97_4, goAt_4, xg_97_2, goAt_j _ _ _ (by decide), he, if_neg (nI_ge (by omega) (by omega)), l]
      by_cases h1 : s.1 98 i = 10
      · have v : skB (s.1 98) (k + 1) false i = skB (s.1 98) k false (i + 1) := by
          conv => lhs; unfold skB
          exact if_pos h1
        rw [if_pos ((by_eq B (by decide)).mpr h1), v]
        exact step (fun e => absurd ((by_eq B (by decide)).mp e) (by rw [h1]; decide))
      · rw [if_neg (fun e => h1 ((by_eq B (by decide)).mp e))]
        by_cases h2 : s.1 98 i = 32
        · have v : skB (s.1 98) (k + 1) false i = skB (s.1 98) k false (i + 1) := by
            conv => lhs; unfold skB
            rw [if_neg h1, if_neg (by rw [h2]; decide), if_neg (by decide), if_pos h2]
          rw [if_pos ((by_eq B (by decide)).mpr h2), v]
          exact step (fun e => absurd ((by_eq B (by decide)).mp e) (by rw [h2]; decide))
        · rw [if_neg (fun e => h2 ((by_eq B (by decide)).mp e))]
          by_cases h3 : s.1 98 i = 35
          · have r := skN_le (s.1 98) k (i + 1)
            have w : skN (s.1 98) (k + 1) i = skN (s.1 98) k (i + 1) := by
              conv => lhs; unfold skN
              exact if_neg h1
            have v : skB (s.1 98) (k + 1) false i = skB (s.1 98) (n - skN (s.1 98) k (i + 1)) false (skN (s.1 98) k (i + 1)) := by
              conv => lhs; unfold skB
              rw [if_neg h1, if_pos h3, skB_note, show i + 1 + k = n by omega]
            rw [if_pos ((by_eq B (by decide)).mpr h3), v]
            unfold b_262_52 b_262_57
            rw [if_neg (by decide), if_pos ((by_eq B (by decide)).mpr h3), lq_71 hn he hb (k + 1) i mjN (by omega) (by unfold mjN; omega), w]
            exact ih _ _ (q + 1) (by omega) (by omega) (by omega)
          · have v : skB (s.1 98) (k + 1) false i = i := by
              unfold skB
              rw [if_neg h1, if_neg h3, if_neg (by decide), if_neg h2]
            rw [if_neg (fun e => h3 ((by_eq B (by decide)).mp e)), v]
            exact out
