section
/-! ===== the reference's blanks are the class's ===== -/
def skN (ty : Nat → Int32) : Nat → Nat → Nat
  | 0, i => i
  | k + 1, i => if ty i = 10 then i else skN ty k (i + 1)
theorem skN_le (ty : Nat → Int32) : ∀ (k i : Nat), i ≤ skN ty k i ∧ skN ty k i ≤ i + k
  | 0, i => ⟨Nat.le_refl _, Nat.le_refl _⟩
  | k + 1, i => by
    have r := skN_le ty k (i + 1)
    unfold skN
    by_cases h : ty i = 10
    · rw [if_pos h]; omega
    · rw [if_neg h]; omega
theorem skB_note (ty : Nat → Int32) : ∀ (k i : Nat), skB ty k true i = skB ty (i + k - skN ty k i) false (skN ty k i)
  | 0, i => by
    show i = skB ty (i + 0 - i) false i
    rw [show i + 0 - i = 0 by omega]
    rfl
  | k + 1, i => by
    by_cases h : ty i = 10
    · have e : skN ty (k + 1) i = i := by
        unfold skN
        exact if_pos h
      rw [e, show i + (k + 1) - i = k + 1 by omega]
      unfold skB
      rw [if_pos h, if_pos h]
    · have e : skN ty (k + 1) i = skN ty k (i + 1) := by
        conv => lhs; unfold skN
        exact if_neg h
      rw [e, show i + (k + 1) = i + 1 + k by omega, ← skB_note ty k (i + 1)]
      conv => lhs; unfold skB
      rw [if_neg h, if_pos rfl, ite_self]
theorem L71_S (R : mjR) (k10 : Nat → Int32 → mjH → mjU) (n : Nat) (a : Nat) (b : Int32) (hp : mjH) : L_262_71 R k10 (n + 1) a b hp = b_262_71 R k10 (L_262_71 R k10 n) a b hp := rfl
theorem L10_S (R : mjR) (n : Nat) (a : Nat) (b : Int32) (hp : mjH) : L_262_10 R (n + 1) a b hp = b_262_10 R (L_262_10 R n) a b hp := rfl
theorem lq_71 {d n : Nat} {s : mjSt3} {k10 : Nat → Int32 → mjH → mjU} {b : Int32} (hn : n ≤ 3000) (he : s.1 97 2 = nI n) (hb : ∀ i, i < n → byR (s.1 98 i)) : ∀ (k i q : Nat), i + k = n → k < q → L_262_71 (mjF (d + 1)) k10 q 97 b (mjW0 (goAt s i)) = k10 97 b (mjW0 (goAt s (skN (s.1 98) k i))) := by
  intro k
  induction k with
  | zero =>
    intro i q hi hq
    obtain ⟨q, rfl⟩ : ∃ m, q = m + 1 := ⟨q - 1, by omega⟩
    have e : i = n := by omega
    rw [L71_S]
    unfold b_262_71 b_262_118
    rw [xg_97_4, goAt_4, xg_97_2, goAt_j _ _ _ (by decide), he, if_pos (nI_le (by omega) (by omega))]
    rfl
  | succ k ih =>
    intro i q hi hq
    obtain ⟨q, rfl⟩ : ∃ m, q = m + 1 := ⟨q - 1, by omega⟩
    have l : lk ((goAt s i).1 98) n i = s.1 98 i &&& 255 := by
      unfold lk
      rw [if_pos (by omega), goAt_q _ _ _ (by decide)]
    rw [L71_S]
    unfold b_262_71 b_262_118
    rw [xg_97_4, goAt_4, xg_97_2, goAt_j _ _ _ (by decide), he, if_neg (nI_ge (by omega) (by omega)), xg_97_4, goAt_4, xV_97, x_look (n := n) ((goAt_j _ _ _ (by decide)).trans he) hn (by omega), bI_s, l]
    unfold skN
    by_cases h : s.1 98 i = 10
    · rw [if_pos ((by_eq (hb i (by omega)) (by decide)).mpr h), if_pos h]
    · rw [if_neg (fun e => h ((by_eq (hb i (by omega)) (by decide)).mp e)), if_neg h, xg_97_4, goAt_4, nI_1, p_at]
      exact ih (i + 1) q (by omega) (by omega)
/-- what next() does behind the blanks -/
noncomputable def nxE (R : mjR) (z : mjSt3) : mjU := b_262_10 R (fun _ _ _ => none) 97 0 (mjW0 z)
theorem nxE_any {R : mjR} {k10 : Nat → Int32 → mjH → mjU} {z : mjSt3} : b_262_10 R k10 97 0 (mjW0 z) = nxE R z := by
  unfold nxE b_262_10
  rw [if_pos rfl, if_pos rfl]
theorem lq_10 {d n : Nat} {s : mjSt3} (hn : n ≤ 3000) (he : s.1 97 2 = nI n) (hb : ∀ i, i < n → byR (s.1 98 i)) : ∀ (K k i q : Nat), k ≤ K → i + k = n → k + 1 < q → L_262_10 (mjF (d + 1)) q 97 1 (mjW0 (goAt s i)) = nxE (mjF (d + 1)) (goAt s (skB (s.1 98) k false i)) := by
  intro K
  induction K with
  | zero =>
    intro k i q hK hi hq
    obtain ⟨q, rfl⟩ : ∃ m, q = m + 1 + 1 := ⟨q - 2, by omega⟩
    have e0 : k = 0 := by omega
    subst e0
    rw [L10_S]
    unfold b_262_10 b_262_56 b_262_57
    rw [if_neg (by decide), xg_97_4, goAt_4, xV_97, x_look (n := n) ((goAt_j _ _ _ (by decide)).trans he) hn (by omega), bI_s, xg_97_4, goAt_4, xg_97_2, goAt_j _ _ _ (by decide), he, if_pos (nI_le (by omega) (by omega)), if_pos rfl, L10_S]
    exact nxE_any
  | succ K ih =>
    intro k i q hK hi hq
    obtain ⟨q, rfl⟩ : ∃ m, q = m + 1 + 1 := ⟨q - 2, by omega⟩
    cases k with
    | zero => exact ih 0 i (q + 1 + 1) (by omega) hi hq
    | succ k =>
      have l : lk ((goAt s i).1 98) n i = s.1 98 i &&& 255 := by
        unfold lk
        rw [if_pos (by omega), goAt_q _ _ _ (by decide)]
      have B := hb i (by omega)
      have out : b_262_56 (mjF (d + 1)) (L_262_10 (mjF (d + 1)) (q + 1)) 97 (s.1 98 i &&& 255) (mjW0 (goAt s i)) = nxE (mjF (d + 1)) (goAt s i) := by
        unfold b_262_56 b_262_57
        rw [if_pos rfl, L10_S]
        exact nxE_any
      have step : ¬ (s.1 98 i &&& 255) = 35 → b_262_52 (mjF (d + 1)) (L_262_10 (mjF (d + 1)) (q + 1)) 97 (s.1 98 i &&& 255) (mjW0 (goAt s i)) = nxE (mjF (d + 1)) (goAt s (skB (s.1 98) k false (i + 1))) := by
        intro h
        unfold b_262_52 b_262_57 b_262_118
        rw [if_neg (by decide), if_neg h, xg_97_4, goAt_4, nI_1, p_at]
        exact ih k (i + 1) (q + 1) (by omega) (by omega) (by omega)
      rw [L10_S]
      unfold b_262_10
      rw [if_neg (by decide), xg_97_4, goAt_4, xV_97, x_look (n := n) ((goAt_j _ _ _ (by decide)).trans he) hn (by omega), bI_s, xg_97_4, goAt_4, xg_97_2, goAt_j _ _ _ (by decide), he, if_neg (nI_ge (by omega) (by omega)), l]
      by_cases h1 : s.1 98 i = 10
      · have v : skB (s.1 98) (k + 1) false i = skB (s.1 98) k false (i + 1) := by
          conv => lhs; unfold skB
          exact if_pos h1
        rw [if_pos ((by_eq B (by decide)).mpr h1), v]
        exact step (fun e => absurd ((by_eq B (by decide)).mp e) (by rw [h1]; decide))
      · rw [if_neg (fun e => h1 ((by_eq B (by decide)).mp e))]
        by_cases h2 : s.1 98 i = 32
        · have v : skB (s.1 98) (k + 1) false i = skB (s.1 98) k false (i + 1) := by
            conv => lhs; unfold skB
            rw [if_neg h1, if_neg (by rw [h2]; decide), if_neg (by decide), if_pos h2]
          rw [if_pos ((by_eq B (by decide)).mpr h2), v]
          exact step (fun e => absurd ((by_eq B (by decide)).mp e) (by rw [h2]; decide))
        · rw [if_neg (fun e => h2 ((by_eq B (by decide)).mp e))]
          by_cases h3 : s.1 98 i = 35
          · have r := skN_le (s.1 98) k (i + 1)
            have w : skN (s.1 98) (k + 1) i = skN (s.1 98) k (i + 1) := by
              conv => lhs; unfold skN
              exact if_neg h1
            have v : skB (s.1 98) (k + 1) false i = skB (s.1 98) (n - skN (s.1 98) k (i + 1)) false (skN (s.1 98) k (i + 1)) := by
              conv => lhs; unfold skB
              rw [if_neg h1, if_pos h3, skB_note, show i + 1 + k = n by omega]
            rw [if_pos ((by_eq B (by decide)).mpr h3), v]
            unfold b_262_52 b_262_57
            rw [if_neg (by decide), if_pos ((by_eq B (by decide)).mpr h3), lq_71 hn he hb (k + 1) i mjN (by omega) (by unfold mjN; omega), w]
            exact ih _ _ (q + 1) (by omega) (by omega) (by omega)
          · have v : skB (s.1 98) (k + 1) false i = i := by
              unfold skB
              rw [if_neg h1, if_neg h3, if_neg (by decide), if_neg h2]
            rw [if_neg (fun e => h3 ((by_eq B (by decide)).mp e)), v]
            exact out
end
section
/-! ===== the reference's numbers ===== -/
def nS (s : mjSt3) (i : Nat) (v : Int32) : mjSt3 := uI s 97 (upd (upd (s.1 97) 5 (nI i)) 6 v)
theorem nS_5 (s : mjSt3) (i : Nat) (v : Int32) : (nS s i v).1 97 5 = nI i := by
  unfold nS
  rw [uI_same]
  exact (if_neg (by decide)).trans (if_pos rfl)
theorem nS_6 (s : mjSt3) (i : Nat) (v : Int32) : (nS s i v).1 97 6 = v := by
  unfold nS
  rw [uI_same]
  exact if_pos rfl
theorem nS_j (s : mjSt3) (i : Nat) (v : Int32) (j : Nat) (h5 : ¬ j = 5) (h6 : ¬ j = 6) : (nS s i v).1 97 j = s.1 97 j := by
  unfold nS
  rw [uI_same]
  exact (if_neg h6).trans (if_neg h5)
theorem nS_q (s : mjSt3) (i : Nat) (v : Int32) (q : Nat) (h : ¬ q = 97) : (nS s i v).1 q = s.1 q := if_neg h
theorem upd_sw (f : Nat → Int32) {a b : Nat} (x y : Int32) (h : ¬ a = b) : upd (upd f a x) b y = upd (upd f b y) a x := by
  funext i
  unfold upd
  by_cases h1 : i = a
  · subst h1
    rw [if_neg h, if_pos rfl, if_pos rfl]
  · by_cases h2 : i = b
    · subst h2
      rw [if_pos rfl, if_neg h1, if_pos rfl]
    · rw [if_neg h2, if_neg h1, if_neg h1, if_neg h2]
theorem p_n5 {s : mjSt3} {i j : Nat} {v : Int32} {k : mjH → mjU} : pI (mjW0 (nS s i v)) 97 12 5 (nI j) k = k (mjW0 (nS s j v)) := by
  rw [xp_97_5]
  congr 2
  unfold nS
  rw [uI_same, uI_uI, upd_sw _ _ _ (show ¬ 6 = 5 by decide), upd_upd]
theorem p_n6 {s : mjSt3} {i : Nat} {v w : Int32} {k : mjH → mjU} : pI (mjW0 (nS s i v)) 97 12 6 w k = k (mjW0 (nS s i w)) := by
  rw [xp_97_6]
  congr 2
  unfold nS
  rw [uI_same, uI_uI, upd_upd]
theorem by_dig : (List.range 256).all (fun j => isDb (Int32.ofInt ((j : Int) - 128) &&& 255) == isDb (Int32.ofInt ((j : Int) - 128))) = true := by decide +kernel
theorem by_dg {b : Int32} (h : byR b) : isDb (b &&& 255) = isDb b := by
  obtain ⟨j, hj, rfl⟩ := by_of h
  have k := List.all_eq_true.mp by_dig j (List.mem_range.mpr hj)
  simpa using k
/-- digits from i on: what next() makes of the first nine behind p, the end -/
def scV (ty : Nat → Int32) (p : Nat) : Nat → Int32 → Nat → Int32 × Nat
  | 0, v, i => (v, i)
  | k + 1, v, i => if isDb (ty i) = true then scV ty p k (if 9 ≤ i - p then v else 10 * v + (ty i &&& 255) - 48) (i + 1) else (v, i)
theorem scV_end (ty : Nat → Int32) (p : Nat) : ∀ (k : Nat) (v : Int32) (w : Int64) (i : Nat), (scV ty p k v i).2 = (scD ty k w i).2
  | 0, _, _, _ => rfl
  | k + 1, v, w, i => by
    unfold scV scD
    by_cases h : isDb (ty i) = true
    · rw [if_pos h, if_pos h]
      exact scV_end ty p k _ _ (i + 1)
    · rw [if_neg h, if_neg h]
theorem L188_S (R : mjR) (n : Nat) (a : Nat) (hp : mjH) : L_262_188 R (n + 1) a hp = b_262_188 R (L_262_188 R n) a hp := rfl
theorem isD_iff {b : Int32} : isDb b = true ↔ ¬ b < 48 ∧ ¬ 57 < b := by
  unfold isDb
  simp
theorem lq_188 {d n p : Nat} {s : mjSt3} (hn : n ≤ 3000) (he : s.1 97 2 = nI n) (hp : s.1 97 4 = nI p) (hb : ∀ i, i < n → byR (s.1 98 i)) : ∀ (k i q : Nat) (v : Int32), i + k = n → p ≤ i → k < q → L_262_188 (mjF (d + 1)) q 97 (mjW0 (nS s i v)) = b_262_264 (mjF (d + 1)) 97 (mjW0 (nS s (scV (s.1 98) p k v i).2 (scV (s.1 98) p k v i).1)) := by
  intro k
  induction k with
  | zero =>
    intro i q v hi hpi hq
    obtain ⟨q, rfl⟩ : ∃ m, q = m + 1 := ⟨q - 1, by omega⟩
    have l : lk ((nS s i v).1 98) n i = 0 := by
      unfold lk
      exact if_neg (by omega)
    rw [L188_S]
    unfold b_262_188
    rw [xg_97_5, nS_5, xV_97, x_look (n := n) ((nS_j _ _ _ _ (by decide) (by decide)).trans he) hn (by omega), bI_s, l, if_pos (by decide)]
    rfl
  | succ k ih =>
    intro i q v hi hpi hq
    obtain ⟨q, rfl⟩ : ∃ m, q = m + 1 := ⟨q - 1, by omega⟩
    have l : lk ((nS s i v).1 98) n i = s.1 98 i &&& 255 := by
      unfold lk
      rw [if_pos (by omega), nS_q _ _ _ _ (by decide)]
    have lookE : mjF (d + 1) 263 [.ref 97, .int (nI i)] (mjW0 (nS s i v)) = some (some (.int (s.1 98 i &&& 255)), mjW0 (nS s i v)) := by
      rw [x_look (n := n) ((nS_j _ _ _ _ (by decide) (by decide)).trans he) hn (by omega), l]
    have dg := by_dg (hb i (by omega))
    rw [L188_S]
    unfold b_262_188 b_262_251
    rw [xg_97_5, nS_5, xV_97, lookE, bI_s]
    unfold scV
    by_cases h : isDb (s.1 98 i) = true
    · obtain ⟨g1, g2⟩ := isD_iff.mp (dg.trans h)
      rw [if_pos h, if_neg g1, xg_97_5, nS_5, xV_97, lookE, bI_s, if_neg g2, xg_97_5, nS_5, xg_97_4, nS_j _ _ _ _ (by decide) (by decide), hp, pk_sub hpi]
      by_cases h9 : 9 ≤ i - p
      · rw [if_pos (show (9 : Int32) ≤ nI (i - p) from nI_le (a := 9) h9 (by omega)), if_pos h9, xg_97_5, nS_5, nI_1, p_n5]
        exact ih (i + 1) q v (by omega) (by omega) (by omega)
      · rw [if_neg (show ¬ (9 : Int32) ≤ nI (i - p) from nI_ge (b := 9) (by omega) (by decide)), if_neg h9, xg_97_6, nS_6, xg_97_5, nS_5, xV_97, lookE, bI_s, p_n6, xg_97_5, nS_5, nI_1, p_n5]
        exact ih (i + 1) q _ (by omega) (by omega) (by omega)
    · have g : ¬ (¬ (s.1 98 i &&& 255) < 48 ∧ ¬ 57 < (s.1 98 i &&& 255)) := fun e => h (dg.symm.trans (isD_iff.mpr e))
      rw [if_neg h]
      by_cases g1 : (s.1 98 i &&& 255) < 48
      · rw [if_pos g1]
      · have g2 : 57 < (s.1 98 i &&& 255) := Classical.byContradiction (fun e => g ⟨g1, e⟩)
        rw [if_neg g1, xg_97_5, nS_5, xV_97, lookE, bI_s, if_pos g2]
end
section
/-! ===== the reference's names ===== -/
def mS (s : mjSt3) (i : Nat) (w : Int64) : mjSt3 := uL (uI s 97 (upd (s.1 97) 5 (nI i))) 97 (vp_updL (s.2.1 97) 7 w)
theorem mS_5 (s : mjSt3) (i : Nat) (w : Int64) : (mS s i w).1 97 5 = nI i := by
  unfold mS
  rw [uL_i, uI_same]
  exact if_pos rfl
theorem mS_7 (s : mjSt3) (i : Nat) (w : Int64) : (mS s i w).2.1 97 7 = w := by
  unfold mS
  rw [uL_same]
  exact if_pos rfl
theorem mS_j (s : mjSt3) (i : Nat) (w : Int64) (j : Nat) (h5 : ¬ j = 5) : (mS s i w).1 97 j = s.1 97 j := by
  unfold mS
  rw [uL_i, uI_same]
  exact if_neg h5
theorem mS_q (s : mjSt3) (i : Nat) (w : Int64) (q : Nat) (h : ¬ q = 97) : (mS s i w).1 q = s.1 q := if_neg h
theorem vupd_upd (f : Nat → Int64) (j : Nat) (x y : Int64) : vp_updL (vp_updL f j x) j y = vp_updL f j y := by
  funext i
  unfold vp_updL
  by_cases h : i = j
  · rw [if_pos h, if_pos h]
  · rw [if_neg h, if_neg h, if_neg h]
theorem uI_uL (s : mjSt3) (a b : Nat) (f : Nat → Int32) (g : Nat → Int64) : uI (uL s a g) b f = uL (uI s b f) a g := rfl
theorem p_m5 {s : mjSt3} {i j : Nat} {w : Int64} {k : mjH → mjU} : pI (mjW0 (mS s i w)) 97 12 5 (nI j) k = k (mjW0 (mS s j w)) := by
  rw [xp_97_5]
  congr 2
  unfold mS
  rw [uL_i, uI_same, uI_uL, uI_uI, upd_upd]
theorem p_m7 {s : mjSt3} {i : Nat} {v w : Int64} {k : mjH → mjU} : pL (mjW0 (mS s i v)) 97 12 7 w k = k (mjW0 (mS s i w)) := by
  rw [xp_97_7]
  congr 2
  unfold mS
  rw [uL_same, uL_uL, vupd_upd]
theorem by_cod : (List.range 256).all (fun j => decide (cdM (Int32.ofInt ((j : Int) - 128) &&& 255) ≤ 0) == !(isLb (Int32.ofInt ((j : Int) - 128)) || isDb (Int32.ofInt ((j : Int) - 128)))) = true := by decide +kernel
theorem by_cd {b : Int32} (h : byR b) : (cdM (b &&& 255) ≤ 0) ↔ ¬ (isLb b = true ∨ isDb b = true) := by
  obtain ⟨j, hj, rfl⟩ := by_of h
  have k := List.all_eq_true.mp by_cod j (List.mem_range.mpr hj)
  simp only [beq_iff_eq] at k
  generalize isLb (Int32.ofInt ((j : Int) - 128)) = x at k ⊢
  generalize isDb (Int32.ofInt ((j : Int) - 128)) = y at k ⊢
  cases x <;> cases y <;> simpa using k
/-- letters and digits from i on: the code of the first ten behind p, the end -/
def scW (ty : Nat → Int32) (p : Nat) : Nat → Int64 → Nat → Int64 × Nat
  | 0, w, i => (w, i)
  | k + 1, w, i => if isLb (ty i) = true ∨ isDb (ty i) = true then scW ty p k (if 10 ≤ i - p then w else 64 * w + (cdM (ty i &&& 255)).toInt64) (i + 1) else (w, i)
theorem scW_end (ty : Nat → Int32) (p : Nat) : ∀ (k : Nat) (v w : Int64) (i : Nat), (scW ty p k v i).2 = (scN ty k w i).2
  | 0, _, _, _ => rfl
  | k + 1, v, w, i => by
    unfold scW scN
    by_cases h : isLb (ty i) = true
    · rw [if_pos (Or.inl h), if_pos h]
      exact scW_end ty p k _ _ (i + 1)
    · rw [if_neg h]
      by_cases g : isDb (ty i) = true
      · rw [if_pos (Or.inr g), if_pos g]
        exact scW_end ty p k _ _ (i + 1)
      · rw [if_neg (fun e => e.elim h g), if_neg g]
theorem L303_S (R : mjR) (n : Nat) (a : Nat) (c : Int32) (hp : mjH) : L_262_303 R (n + 1) a c hp = b_262_303 R (L_262_303 R n) a c hp := rfl
/-- what next() does behind a name -/
noncomputable def nmE (R : mjR) (c : Int32) (len : Nat) (hp : mjH) : mjU := if len ≤ 10 then (if (90 : Int32) < c then b_262_400 R 97 97 2 hp else b_262_400 R 97 97 1 hp) else b_262_400 R 97 97 6 hp
theorem lq_303 {d n p : Nat} {s : mjSt3} {c : Int32} (hn : n ≤ 3000) (he : s.1 97 2 = nI n) (hp : s.1 97 4 = nI p) (hb : ∀ i, i < n → byR (s.1 98 i)) : ∀ (k i q : Nat) (w : Int64), i + k = n → p ≤ i → k < q → L_262_303 (mjF (d + 1)) q 97 c (mjW0 (mS s i w)) = nmE (mjF (d + 1)) c ((scW (s.1 98) p k w i).2 - p) (mjW0 (mS s (scW (s.1 98) p k w i).2 (scW (s.1 98) p k w i).1)) := by
  intro k
  have stop : ∀ (i : Nat) (w : Int64), p ≤ i → i ≤ n → gI (mjW0 (mS s i w)) 97 12 5 (fun v6 => gI (mjW0 (mS s i w)) 97 12 4 (fun v7 => if (v6 - v7) ≤ (10 : Int32) then (if (90 : Int32) < c then b_262_400 (mjF (d + 1)) 97 97 (2 : Int32) (mjW0 (mS s i w)) else b_262_400 (mjF (d + 1)) 97 97 (1 : Int32) (mjW0 (mS s i w))) else b_262_400 (mjF (d + 1)) 97 97 (6 : Int32) (mjW0 (mS s i w)))) = nmE (mjF (d + 1)) c (i - p) (mjW0 (mS s i w)) := by
    intro i w h1 h2
    rw [xg_97_5, mS_5, xg_97_4, mS_j _ _ _ _ (by decide), hp, pk_sub h1]
    unfold nmE
    by_cases g : i - p ≤ 10
    · rw [if_pos (show nI (i - p) ≤ (10 : Int32) from nI_le (b := 10) g (by decide)), if_pos g]
    · rw [if_neg (show ¬ nI (i - p) ≤ (10 : Int32) from nI_ge (a := 10) (by omega) (by omega)), if_neg g]
  induction k with
  | zero =>
    intro i q w hi hpi hq
    obtain ⟨q, rfl⟩ : ∃ m, q = m + 1 := ⟨q - 1, by omega⟩
    have l : lk ((mS s i w).1 98) n i = 0 := by
      unfold lk
      exact if_neg (by omega)
    rw [L303_S]
    unfold b_262_303
    rw [xg_97_5, mS_5, xV_97, x_look (n := n) ((mS_j _ _ _ _ (by decide)).trans he) hn (by omega), bI_s, l, x_code, bI_s, if_pos (by decide)]
    exact stop i w hpi (by omega)
  | succ k ih =>
    intro i q w hi hpi hq
    obtain ⟨q, rfl⟩ : ∃ m, q = m + 1 := ⟨q - 1, by omega⟩
    have l : lk ((mS s i w).1 98) n i = s.1 98 i &&& 255 := by
      unfold lk
      rw [if_pos (by omega), mS_q _ _ _ _ (by decide)]
    have lookE : mjF (d + 1) 263 [.ref 97, .int (nI i)] (mjW0 (mS s i w)) = some (some (.int (s.1 98 i &&& 255)), mjW0 (mS s i w)) := by
      rw [x_look (n := n) ((mS_j _ _ _ _ (by decide)).trans he) hn (by omega), l]
    have cd := by_cd (hb i (by omega))
    rw [L303_S]
    unfold b_262_303 b_262_356
    rw [xg_97_5, mS_5, xV_97, lookE, bI_s, x_code, bI_s]
    unfold scW
    by_cases h : isLb (s.1 98 i) = true ∨ isDb (s.1 98 i) = true
    · rw [if_neg (fun e => (cd.mp e) h), if_pos h, xg_97_5, mS_5, xg_97_4, mS_j _ _ _ _ (by decide), hp, pk_sub hpi]
      by_cases h9 : 10 ≤ i - p
      · rw [if_pos (show (10 : Int32) ≤ nI (i - p) from nI_le (a := 10) h9 (by omega)), if_pos h9, xg_97_5, mS_5, nI_1, p_m5]
        exact ih (i + 1) q w (by omega) (by omega) (by omega)
      · rw [if_neg (show ¬ (10 : Int32) ≤ nI (i - p) from nI_ge (b := 10) (by omega) (by decide)), if_neg h9, xg_97_7, mS_7, xg_97_5, mS_5, xV_97, lookE, bI_s, x_code, bI_s, p_m7, xg_97_5, mS_5, nI_1, p_m5]
        exact ih (i + 1) q _ (by omega) (by omega) (by omega)
    · rw [if_pos (cd.mpr h), if_neg h]
      exact stop i w hpi (by omega)
end
section
/-! ===== the reference's words ===== -/
def kS (s : mjSt3) (a b : Int32) : mjSt3 := uI s 97 (upd (upd (s.1 97) 3 a) 6 b)
theorem kS_j (s : mjSt3) (a b : Int32) (j : Nat) (h3 : ¬ j = 3) (h6 : ¬ j = 6) : (kS s a b).1 97 j = s.1 97 j := by
  unfold kS
  rw [uI_same]
  exact (if_neg h6).trans (if_neg h3)
theorem kS_3 (s : mjSt3) (a b : Int32) : (kS s a b).1 97 3 = a := by
  unfold kS
  rw [uI_same]
  exact (if_neg (by decide)).trans (if_pos rfl)
theorem kS_2 (s : mjSt3) (a b : Int32) : (kS s a b).2 = s.2 := rfl
theorem p_k3 {s : mjSt3} {a b x : Int32} {k : mjH → mjU} : pI (mjW0 (kS s a b)) 97 12 3 x k = k (mjW0 (kS s x b)) := by
  rw [xp_97_3]
  congr 2
  unfold kS
  rw [uI_same, uI_uI, upd_sw _ _ _ (show ¬ 6 = 3 by decide), upd_upd]
theorem p_k6 {s : mjSt3} {a b x : Int32} {k : mjH → mjU} : pI (mjW0 (kS s a b)) 97 12 6 x k = k (mjW0 (kS s a x)) := by
  rw [xp_97_6]
  congr 2
  unfold kS
  rw [uI_same, uI_uI, upd_upd]
/-- the word's number: sort and number behind keptWord -/
def kwF (kp : Nat → Int64) (nm : Int64) : Nat → Nat → Int32 × Int32 → Int32 × Int32
  | 0, _, z => z
  | k + 1, i, z => kwF kp nm k (i + 1) (if kp i = nm then (5, nI i) else z)
theorem L264_S (R : mjR) (n : Nat) (a : Nat) (c : Int32) (hp : mjH) : L_264_2 R (n + 1) a c hp = b_264_2 R (L_264_2 R n) a c hp := rfl
theorem lq_264 {d : Nat} {s : mjSt3} : ∀ (k i q : Nat) (z : Int32 × Int32), i + k = 17 → k < q → L_264_2 (mjF d) q 97 (nI i) (mjW0 (kS s z.1 z.2)) = some (none, mjW0 (kS s (kwF (s.2.1 99) (s.2.1 97 7) k i z).1 (kwF (s.2.1 99) (s.2.1 97 7) k i z).2)) := by
  intro k
  induction k with
  | zero =>
    intro i q z hi hq
    obtain ⟨q, rfl⟩ : ∃ m, q = m + 1 := ⟨q - 1, by omega⟩
    have e : i = 17 := by omega
    subst e
    rw [L264_S]
    unfold b_264_2
    rw [if_pos (by decide)]
    rfl
  | succ k ih =>
    intro i q z hi hq
    obtain ⟨q, rfl⟩ : ∃ m, q = m + 1 := ⟨q - 1, by omega⟩
    rw [L264_S]
    unfold b_264_2 b_264_35 kwF
    rw [if_neg (show ¬ (16 : Int32) < nI i from nI_nlt (b := i) (a := 16) (by omega) (by decide)), xg_97_8, xa_99, if_pos (mj_in_nI (by omega) (by decide)), nI_clamp (by omega), xg_97_7, kS_2]
    by_cases h : s.2.1 99 i = s.2.1 97 7
    · rw [if_pos ((lg_cmp_eq _ _).mpr h), if_pos h, p_k3, p_k6, nI_1]
      exact ih (i + 1) q (5, nI i) (by omega) (by omega)
    · rw [if_neg (fun e => h ((lg_cmp_eq _ _).mp e)), if_neg h, nI_1]
      exact ih (i + 1) q z (by omega) (by omega)
theorem kS_self (s : mjSt3) : kS s (s.1 97 3) (s.1 97 6) = s := by
  unfold kS
  have e : upd (upd (s.1 97) 3 (s.1 97 3)) 6 (s.1 97 6) = s.1 97 := by
    funext i
    unfold upd
    by_cases h : i = 6
    · rw [if_pos h, h]
    · rw [if_neg h]
      by_cases g : i = 3
      · rw [if_pos g, g]
      · rw [if_neg g]
  rw [e, uI_self]
theorem x_kept {d : Nat} {s : mjSt3} : mjF (d + 1) 264 [.ref 97] (mjW0 s) = some (none, mjW0 (kS s (kwF (s.2.1 99) (s.2.1 97 7) 16 1 (s.1 97 3, s.1 97 6)).1 (kwF (s.2.1 99) (s.2.1 97 7) 16 1 (s.1 97 3, s.1 97 6)).2)) := by
  rw [e_264]
  unfold f_264
  unfold b_264_0
  have k := lq_264 (d := d) (s := s) 16 1 mjN (s.1 97 3, s.1 97 6) (by omega) (by unfold mjN; omega)
  rw [kS_self] at k
  exact k
end
section
/-! ===== the reference's signs ===== -/
def gS (z : mjSt3) (a b : Int32) (e : Nat) : mjSt3 := uI z 97 (upd (upd (upd (z.1 97) 3 a) 6 b) 5 (nI e))
theorem gS_3 (z : mjSt3) (a b : Int32) (e : Nat) : (gS z a b e).1 97 3 = a := by
  unfold gS
  rw [uI_same]
  exact (if_neg (by decide)).trans ((if_neg (by decide)).trans (if_pos rfl))
theorem gS_5 (z : mjSt3) (a b : Int32) (e : Nat) : (gS z a b e).1 97 5 = nI e := by
  unfold gS
  rw [uI_same]
  exact if_pos rfl
theorem gS_6 (z : mjSt3) (a b : Int32) (e : Nat) : (gS z a b e).1 97 6 = b := by
  unfold gS
  rw [uI_same]
  exact (if_neg (by decide)).trans (if_pos rfl)
theorem gS_j (z : mjSt3) (a b : Int32) (e j : Nat) (h3 : ¬ j = 3) (h5 : ¬ j = 5) (h6 : ¬ j = 6) : (gS z a b e).1 97 j = z.1 97 j := by
  unfold gS
  rw [uI_same]
  exact (if_neg h5).trans ((if_neg h6).trans (if_neg h3))
theorem gS_q (z : mjSt3) (a b : Int32) (e q : Nat) (h : ¬ q = 97) : (gS z a b e).1 q = z.1 q := if_neg h
theorem p_g6 {z : mjSt3} {a b x : Int32} {e : Nat} {k : mjH → mjU} : pI (mjW0 (gS z a b e)) 97 12 6 x k = k (mjW0 (gS z a x e)) := by
  rw [xp_97_6]
  congr 2
  unfold gS
  rw [uI_same, uI_uI, upd_sw _ _ _ (show ¬ 5 = 6 by decide), upd_upd]
theorem p_g5 {z : mjSt3} {a b : Int32} {e x : Nat} {k : mjH → mjU} : pI (mjW0 (gS z a b e)) 97 12 5 (nI x) k = k (mjW0 (gS z a b x)) := by
  rw [xp_97_5]
  congr 2
  unfold gS
  rw [uI_same, uI_uI, upd_upd]
theorem p_g3 {z : mjSt3} {a b x : Int32} {e : Nat} {k : mjH → mjU} : pI (mjW0 (gS z a b e)) 97 12 3 x k = k (mjW0 (gS z x b e)) := by
  rw [xp_97_3]
  congr 2
  unfold gS
  rw [uI_same, uI_uI, upd_sw _ _ _ (show ¬ 5 = 3 by decide), upd_sw _ _ _ (show ¬ 6 = 3 by decide), upd_upd]
def sgM : List Int32 := [37, 40, 41, 42, 43, 44, 45, 46, 47, 59, 60, 61, 91, 93, 123, 125]
theorem chainL {c : Int32} {X Y : mjU} : ∀ L : List Int32, (L.foldr (fun a r => if c = a then X else r) Y) = if c ∈ L then X else Y
  | [] => by simp
  | a :: L => by
    show (if c = a then X else L.foldr (fun a r => if c = a then X else r) Y) = _
    rw [chainL L]
    by_cases h : c = a
    · rw [if_pos h, if_pos (by rw [h]; exact List.mem_cons_self)]
    · rw [if_neg h]
      by_cases g : c ∈ L
      · rw [if_pos g, if_pos (List.mem_cons_of_mem _ g)]
      · rw [if_neg g, if_neg (fun e => (List.mem_cons.mp e).elim h g)]
theorem x_msign {d n p : Nat} {z : mjSt3} (hn : n ≤ 3000) (he : z.1 97 2 = nI n) (hp : z.1 97 4 = nI p) (hpn : p < n) (c : Int32) : mjF (d + 2) 265 [.ref 97, .int c] (mjW0 z) = some (none, mjW0 (if lk (z.1 98) n (p + 1) = 61 ∧ (c = 61 ∨ c = 33) then gS z 4 (if c = 61 then 257 else 258) (p + 2) else gS z (if c ∈ sgM then 4 else 6) c (p + 1))) := by
  have e0 : ∀ k : mjH → mjU, pI (mjW0 z) 97 12 3 4 (fun hp1 => pI hp1 97 12 6 c (fun hp2 => gI hp2 97 12 4 (fun v3 => pI hp2 97 12 5 (v3 + 1) k))) = k (mjW0 (gS z 4 c (p + 1))) := by
    intro k
    have e4 : (uI z 97 (upd (upd (z.1 97) 3 4) 6 c)).1 97 4 = nI p := by
      rw [uI_same]
      exact (if_neg (by decide)).trans ((if_neg (by decide)).trans hp)
    unfold gS
    rw [xp_97_3, xp_97_6, uI_same, uI_uI, xg_97_4, e4, nI_1, xp_97_5, uI_same, uI_uI]
  have one : b_265_51 (mjF (d + 1)) 97 c (mjW0 (gS z 4 c (p + 1))) = some (none, mjW0 (gS z (if c ∈ sgM then 4 else 6) c (p + 1))) := by
    unfold b_265_51 b_265_52
    rw [if_pos rfl]
    have ch := chainL (c := c) (X := b_265_228 (mjF (d + 1)) (mjW0 (gS z 4 c (p + 1)))) (Y := pI (mjW0 (gS z 4 c (p + 1))) 97 12 3 6 (fun hp17 => some (none, hp17))) sgM
    simp only [sgM, List.foldr_cons, List.foldr_nil] at ch
    rw [ch]
    show (if c ∈ sgM then b_265_228 (mjF (d + 1)) (mjW0 (gS z 4 c (p + 1))) else pI (mjW0 (gS z 4 c (p + 1))) 97 12 3 6 (fun hp17 => some (none, hp17))) = _
    by_cases h : c ∈ sgM
    · rw [if_pos h, if_pos h]; rfl
    · rw [if_neg h, if_neg h, p_g3]
  have two : (c = 61 ∨ c = 33) → b_265_47 (mjF (d + 1)) 97 c (mjW0 (gS z 4 c (p + 1))) = some (none, mjW0 (gS z 4 (if c = 61 then 257 else 258) (p + 2))) := by
    intro _
    have e3 : ∀ x : Int32, b_265_73 (mjF (d + 1)) 97 97 x (mjW0 (gS z 4 c (p + 1))) = some (none, mjW0 (gS z 4 x (p + 2))) := by
      intro x
      unfold b_265_73
      rw [p_g6, xg_97_4, gS_j _ _ _ _ _ (by decide) (by decide) (by decide), hp, show nI p + (2 : Int32) = nI (p + 2) from nI_add p 2, p_g5]
    unfold b_265_47 b_265_52
    rw [if_neg (by decide)]
    by_cases h : c = 61
    · rw [if_pos h, if_pos h]; exact e3 257
    · rw [if_neg h, if_neg h]; exact e3 258
  rw [e_265]
  unfold f_265
  unfold b_265_0
  rw [e0, xg_97_4, gS_j _ _ _ _ _ (by decide) (by decide) (by decide), hp, nI_1, xV_97, x_look (n := n) ((gS_j _ _ _ _ _ (by decide) (by decide) (by decide)).trans he) hn (by omega), bI_s, gS_q _ _ _ _ _ (by decide)]
  by_cases h1 : lk (z.1 98) n (p + 1) = 61
  · rw [if_pos h1]
    by_cases h2 : c = 61
    · rw [if_pos h2, if_pos ⟨h1, Or.inl h2⟩]
      exact two (Or.inl h2)
    · rw [if_neg h2]
      by_cases h3 : c = 33
      · rw [if_pos h3, if_pos ⟨h1, Or.inr h3⟩]
        exact two (Or.inr h3)
      · rw [if_neg h3, if_neg (fun e => e.2.elim h2 h3)]
        exact one
  · rw [if_neg h1, if_neg (fun e => h1 e.1)]
    exact one
end
section
/-! ===== next() ===== -/
def offN (s s' : mjSt3) : Prop := (∀ q, ¬ q = 97 → s'.1 q = s.1 q) ∧ (∀ j, ¬ j = 3 → ¬ j = 4 → ¬ j = 5 → ¬ j = 6 → s'.1 97 j = s.1 97 j) ∧ (∀ q, ¬ q = 97 → s'.2.1 q = s.2.1 q) ∧ (∀ j, ¬ j = 7 → s'.2.1 97 j = s.2.1 97 j) ∧ s'.2.2 = s.2.2
theorem offN.tr {a b c : mjSt3} (h : offN a b) (g : offN b c) : offN a c :=
  ⟨fun q x => (g.1 q x).trans (h.1 q x), fun j x y u v => (g.2.1 j x y u v).trans (h.2.1 j x y u v), fun q x => (g.2.2.1 q x).trans (h.2.2.1 q x), fun j x => (g.2.2.2.1 j x).trans (h.2.2.2.1 j x), g.2.2.2.2.trans h.2.2.2.2⟩
theorem goAt_off (s : mjSt3) (i : Nat) : offN s (goAt s i) := ⟨fun q h => goAt_q s i q h, fun j _ h _ _ => goAt_j s i j h, fun _ _ => rfl, fun _ _ => rfl, rfl⟩
theorem nS_off (s : mjSt3) (i : Nat) (v : Int32) : offN s (nS s i v) := ⟨fun q h => nS_q s i v q h, fun j _ _ h5 h6 => nS_j s i v j h5 h6, fun _ _ => rfl, fun _ _ => rfl, rfl⟩
theorem mS_off (s : mjSt3) (i : Nat) (w : Int64) : offN s (mS s i w) := ⟨fun q h => mS_q s i w q h, fun j _ _ h5 _ => mS_j s i w j h5, fun q h => (by unfold mS; rw [uL_ne _ _ _ _ h]; rfl), fun j h => (by unfold mS; rw [uL_same]; exact if_neg h), rfl⟩
theorem kS_off (s : mjSt3) (a b : Int32) : offN s (kS s a b) := ⟨fun q h => if_neg h, fun j h3 _ _ h6 => kS_j s a b j h3 h6, fun _ _ => rfl, fun _ _ => rfl, rfl⟩
theorem gS_off (s : mjSt3) (a b : Int32) (e : Nat) : offN s (gS s a b e) := ⟨fun q h => gS_q s a b e q h, fun j h3 _ h5 h6 => gS_j s a b e j h3 h5 h6, fun _ _ => rfl, fun _ _ => rfl, rfl⟩
def oS (z : mjSt3) (a : Int32) : mjSt3 := uI z 97 (upd (z.1 97) 3 a)
theorem oS_3 (z : mjSt3) (a : Int32) : (oS z a).1 97 3 = a := by
  unfold oS
  rw [uI_same]
  exact if_pos rfl
theorem oS_j (z : mjSt3) (a : Int32) (j : Nat) (h : ¬ j = 3) : (oS z a).1 97 j = z.1 97 j := by
  unfold oS
  rw [uI_same]
  exact if_neg h
theorem oS_off (s : mjSt3) (a : Int32) : offN s (oS s a) := ⟨fun q h => if_neg h, fun j h3 _ _ _ => oS_j s a j h3, fun _ _ => rfl, fun _ _ => rfl, rfl⟩
theorem p_f {z : mjSt3} {a : Int32} {k : mjH → mjU} : pI (mjW0 z) 97 12 3 a k = k (mjW0 (oS z a)) := xp_97_3
theorem kS_6 (s : mjSt3) (a b : Int32) : (kS s a b).1 97 6 = b := by
  unfold kS
  rw [uI_same]
  exact if_pos rfl
/-- a token of the reference: sort, number, name, end -/
def m1 (ty : Nat → Int32) (kp : Nat → Int64) (n p : Nat) (old : Int32) : Int32 × Int32 × Int64 × Nat :=
  if p < n then
    (if isDb (ty p) = true then (if (scV ty p (n - p) 0 p).2 - p ≤ 9 then 3 else 6, (scV ty p (n - p) 0 p).1, 0, (scV ty p (n - p) 0 p).2)
    else if isLb (ty p) = true then
      (if (scW ty p (n - p) 0 p).2 - p ≤ 10 then (if 90 < (ty p &&& 255) then ((kwF kp (scW ty p (n - p) 0 p).1 16 1 (2, old)).1, (kwF kp (scW ty p (n - p) 0 p).1 16 1 (2, old)).2, (scW ty p (n - p) 0 p).1, (scW ty p (n - p) 0 p).2) else (1, old, (scW ty p (n - p) 0 p).1, (scW ty p (n - p) 0 p).2)) else (6, old, (scW ty p (n - p) 0 p).1, (scW ty p (n - p) 0 p).2))
    else if lk ty n (p + 1) = 61 ∧ ((ty p &&& 255) = 61 ∨ (ty p &&& 255) = 33) then (4, if (ty p &&& 255) = 61 then 257 else 258, 0, p + 2)
    else (if (ty p &&& 255) ∈ sgM then 4 else 6, ty p &&& 255, 0, p + 1))
  else (0, old, 0, n)
/-- the state behind next(): the token t at p -/
def nxS (s s' : mjSt3) (p : Nat) (t : Int32 × Int32 × Int64 × Nat) : Prop := offN s s' ∧ s'.1 97 4 = nI p ∧ s'.1 97 3 = t.1 ∧ s'.1 97 6 = t.2.1 ∧ s'.1 97 5 = nI t.2.2.2 ∧ (t.1 = 1 ∨ t.1 = 2 → s'.2.1 97 7 = t.2.2.1)
theorem x_nxE {d n p : Nat} {s : mjSt3} (hn : n ≤ 3000) (hpn : p ≤ n) (he : s.1 97 2 = nI n) (hb : ∀ i, i < n → byR (s.1 98 i)) : ∃ s', nxE (mjF (d + 2)) (goAt s p) = some (none, mjW0 s') ∧ nxS s s' p (m1 (s.1 98) (s.2.1 99) n p (s.1 97 6)) := by
  have h4 := goAt_4 s p
  have h2 : (goAt s p).1 97 2 = nI n := (goAt_j _ _ _ (by decide)).trans he
  have h6 : (goAt s p).1 97 6 = s.1 97 6 := goAt_j _ _ _ (by decide)
  have hq : (goAt s p).1 98 = s.1 98 := goAt_q _ _ _ (by decide)
  have o0 := goAt_off s p
  generalize goAt s p = z at h4 h2 h6 hq o0 ⊢
  have hbz : ∀ i, i < n → byR (z.1 98 i) := by rw [hq]; exact hb
  have z1_4 : (uI z 97 (upd (z.1 97) 5 (nI p))).1 97 4 = nI p := by
    rw [uI_same]
    exact (if_neg (by decide)).trans h4
  have z1_2 : (uI z 97 (upd (z.1 97) 5 (nI p))).1 97 2 = nI n := by
    rw [uI_same]
    exact (if_neg (by decide)).trans h2
  unfold nxE b_262_10
  rw [if_pos rfl, xg_97_4, h4, xp_97_5, xg_97_4, z1_4, xg_97_2, z1_2]
  by_cases hlt : p < n
  · have l : lk ((uI z 97 (upd (z.1 97) 5 (nI p))).1 98) n p = s.1 98 p &&& 255 := by
      unfold lk
      rw [if_pos hlt, uI_ne _ _ _ _ (by decide), hq]
    have B := hb p hlt
    have dg := by_dg B
    have cd := by_cd B
    rw [if_pos (nI_lt hlt (by omega)), xg_97_4, z1_4, xV_97, x_look (n := n) z1_2 hn (by omega), bI_s, l]
    by_cases hD : isDb (s.1 98 p) = true
    · obtain ⟨g1, g2⟩ := isD_iff.mp (dg.trans hD)
      have e1 : uI (uI z 97 (upd (z.1 97) 5 (nI p))) 97 (upd ((uI z 97 (upd (z.1 97) 5 (nI p))).1 97) 6 0) = nS z p 0 := by
        rw [uI_same, uI_uI]; rfl
      rw [if_neg g1, if_neg g2, xp_97_6, e1, lq_188 hn h2 h4 hbz (n - p) p mjN 0 (by omega) (Nat.le_refl p) (by unfold mjN; omega), hq]
      have r := scD_le (s.1 98) (n - p) 0 p
      rw [← scV_end (s.1 98) p (n - p) 0 0 p] at r
      generalize hv : scV (s.1 98) p (n - p) 0 p = v at r ⊢
      unfold b_262_264 b_262_285
      rw [xg_97_5, nS_5, xg_97_4, nS_j _ _ _ _ (by decide) (by decide), h4, pk_sub r.1, p_f, p_f]
      have t : m1 (s.1 98) (s.2.1 99) n p (s.1 97 6) = (if v.2 - p ≤ 9 then 3 else 6, v.1, 0, v.2) := by
        unfold m1
        rw [if_pos hlt, if_pos hD, hv]
      have fin : ∀ a : Int32, a = (if v.2 - p ≤ 9 then 3 else 6) → ∃ s', (some (none, mjW0 (oS (nS z v.2 v.1) a)) : mjU) = some (none, mjW0 s') ∧ nxS s s' p (if v.2 - p ≤ 9 then 3 else 6, v.1, 0, v.2) := by
        intro a ha
        refine ⟨_, rfl, (o0.tr (nS_off _ _ _)).tr (oS_off _ _), ?_, ?_, ?_, ?_, ?_⟩
        · rw [oS_j _ _ _ (by decide), nS_j _ _ _ _ (by decide) (by decide), h4]
        · rw [oS_3, ha]
        · rw [oS_j _ _ _ (by decide), nS_6]
        · rw [oS_j _ _ _ (by decide), nS_5]
        · intro h
          exfalso
          dsimp only at h
          by_cases g : v.2 - p ≤ 9
          · rw [if_pos g] at h; exact absurd h (by decide)
          · rw [if_neg g] at h; exact absurd h (by decide)
      rw [t]
      by_cases g : v.2 - p ≤ 9
      · rw [if_pos (show nI (v.2 - p) ≤ (9 : Int32) from nI_le (b := 9) g (by decide))]
        exact fin 3 (by rw [if_pos g])
      · rw [if_neg (show ¬ nI (v.2 - p) ≤ (9 : Int32) from nI_ge (a := 9) (by omega) (by omega))]
        exact fin 6 (by rw [if_neg g])
    · have both : ∀ X Y : mjU, (if (s.1 98 p &&& 255) < (48 : Int32) then X else if (57 : Int32) < (s.1 98 p &&& 255) then X else Y) = X := by
        intro X Y
        by_cases g1 : (s.1 98 p &&& 255) < 48
        · rw [if_pos g1]
        · have g2 : 57 < (s.1 98 p &&& 255) := Classical.byContradiction (fun e => hD (dg.symm.trans (isD_iff.mpr ⟨g1, e⟩)))
          rw [if_neg g1, if_pos g2]
      rw [both]
      unfold b_262_291
      rw [x_code, bI_s]
      by_cases hLt : isLb (s.1 98 p) = true
      · rw [if_neg (fun e => (cd.mp e) (Or.inl hLt)), xp_97_7]
        have e1 : uL (uI z 97 (upd (z.1 97) 5 (nI p))) 97 (vp_updL ((uI z 97 (upd (z.1 97) 5 (nI p))).2.1 97) 7 0) = mS z p 0 := rfl
        rw [e1, lq_303 hn h2 h4 hbz (n - p) p mjN 0 (by omega) (Nat.le_refl p) (by unfold mjN; omega), hq]
        have om := o0.tr (mS_off z (scW (s.1 98) p (n - p) 0 p).2 (scW (s.1 98) p (n - p) 0 p).1)
        generalize hv : scW (s.1 98) p (n - p) 0 p = v at om ⊢
        have m6 : (mS z v.2 v.1).1 97 6 = s.1 97 6 := (mS_j _ _ _ _ (by decide)).trans h6
        have m4 : (mS z v.2 v.1).1 97 4 = nI p := (mS_j _ _ _ _ (by decide)).trans h4
        have mk : (mS z v.2 v.1).2.1 99 = s.2.1 99 := om.2.2.1 99 (by decide)
        have m5 := mS_5 z v.2 v.1
        have m7 := mS_7 z v.2 v.1
        generalize mS z v.2 v.1 = y at om m6 m4 mk m5 m7 ⊢
        have plain : ∀ a : Int32, ¬ a = 2 → ∃ s', b_262_400 (mjF (d + 2)) 97 97 a (mjW0 y) = some (none, mjW0 s') ∧ nxS s s' p (a, s.1 97 6, v.1, v.2) := by
          intro a ha
          refine ⟨oS y a, ?_, om.tr (oS_off _ _), ?_, ?_, ?_, ?_, ?_⟩
          · unfold b_262_400
            rw [p_f, xg_97_3, oS_3, if_neg ha]
          · rw [oS_j _ _ _ (by decide), m4]
          · rw [oS_3]
          · rw [oS_j _ _ _ (by decide), m6]
          · rw [oS_j _ _ _ (by decide), m5]
          · intro _
            exact m7
        have t : m1 (s.1 98) (s.2.1 99) n p (s.1 97 6) = if v.2 - p ≤ 10 then (if 90 < (s.1 98 p &&& 255) then ((kwF (s.2.1 99) v.1 16 1 (2, s.1 97 6)).1, (kwF (s.2.1 99) v.1 16 1 (2, s.1 97 6)).2, v.1, v.2) else (1, s.1 97 6, v.1, v.2)) else (6, s.1 97 6, v.1, v.2) := by
          unfold m1
          rw [if_pos hlt, if_neg hD, if_pos hLt, hv]
        rw [t]
        unfold nmE
        by_cases g : v.2 - p ≤ 10
        · rw [if_pos g, if_pos g]
          by_cases g9 : (90 : Int32) < (s.1 98 p &&& 255)
          · rw [if_pos g9, if_pos g9]
            refine ⟨kS (oS y 2) (kwF (s.2.1 99) v.1 16 1 (2, s.1 97 6)).1 (kwF (s.2.1 99) v.1 16 1 (2, s.1 97 6)).2, ?_, (om.tr (oS_off _ _)).tr (kS_off _ _ _), ?_, ?_, ?_, ?_, ?_⟩
            · unfold b_262_400
              have o2 : (oS y 2).2 = y.2 := rfl
              rw [p_f, xg_97_3, oS_3, if_pos rfl, xV_97, x_kept, bN_s, oS_3, oS_j _ _ _ (by decide), o2, mk, m7, m6]
            · rw [kS_j _ _ _ _ (by decide) (by decide), oS_j _ _ _ (by decide), m4]
            · rw [kS_3]
            · rw [kS_6]
            · rw [kS_j _ _ _ _ (by decide) (by decide), oS_j _ _ _ (by decide), m5]
            · intro _
              exact m7
          · rw [if_neg g9, if_neg g9]
            exact plain 1 (by decide)
        · rw [if_neg g, if_neg g]
          exact plain 6 (by decide)
      · rw [if_pos (cd.mpr (fun e => e.elim hLt hD)), xV_97, x_msign hn z1_2 z1_4 hlt, bN_s, uI_ne _ _ _ _ (by decide), hq]
        have oz : offN s (uI z 97 (upd (z.1 97) 5 (nI p))) := o0.tr ⟨fun q h => if_neg h, fun j _ _ h _ => (by rw [uI_same]; exact if_neg h), fun _ _ => rfl, fun _ _ => rfl, rfl⟩
        have t : m1 (s.1 98) (s.2.1 99) n p (s.1 97 6) = if lk (s.1 98) n (p + 1) = 61 ∧ ((s.1 98 p &&& 255) = 61 ∨ (s.1 98 p &&& 255) = 33) then (4, if (s.1 98 p &&& 255) = 61 then 257 else 258, 0, p + 2) else (if (s.1 98 p &&& 255) ∈ sgM then 4 else 6, s.1 98 p &&& 255, 0, p + 1) := by
          unfold m1
          rw [if_pos hlt, if_neg hD, if_neg hLt]
        rw [t]
        by_cases g : lk (s.1 98) n (p + 1) = 61 ∧ ((s.1 98 p &&& 255) = 61 ∨ (s.1 98 p &&& 255) = 33)
        · rw [if_pos g, if_pos g]
          refine ⟨_, rfl, oz.tr (gS_off _ _ _ _), ?_, gS_3 _ _ _ _, gS_6 _ _ _ _, gS_5 _ _ _ _, fun h => absurd h (show ¬ ((4 : Int32) = 1 ∨ (4 : Int32) = 2) by decide)⟩
          rw [gS_j _ _ _ _ _ (by decide) (by decide) (by decide), z1_4]
        · rw [if_neg g, if_neg g]
          refine ⟨_, rfl, oz.tr (gS_off _ _ _ _), ?_, gS_3 _ _ _ _, gS_6 _ _ _ _, gS_5 _ _ _ _, ?_⟩
          · rw [gS_j _ _ _ _ _ (by decide) (by decide) (by decide), z1_4]
          · intro h
            exfalso
            dsimp only at h
            by_cases gg : (s.1 98 p &&& 255) ∈ sgM
            · rw [if_pos gg] at h; exact absurd h (by decide)
            · rw [if_neg gg] at h; exact absurd h (by decide)
  · have e : p = n := by omega
    subst e
    have t : m1 (s.1 98) (s.2.1 99) p p (s.1 97 6) = (0, s.1 97 6, 0, p) := by
      unfold m1
      exact if_neg hlt
    rw [if_neg (nI_nlt (Nat.le_refl p) (by omega)), t, xp_97_3, uI_same, uI_uI, xg_97_2]
    have y2 : (uI z 97 (upd (upd (z.1 97) 5 (nI p)) 3 0)).1 97 2 = nI p := by
      rw [uI_same]
      exact (if_neg (by decide)).trans ((if_neg (by decide)).trans h2)
    rw [y2, xp_97_4, uI_same, uI_uI, xg_97_2]
    have y3 : (uI z 97 (upd (upd (upd (z.1 97) 5 (nI p)) 3 0) 4 (nI p))).1 97 2 = nI p := by
      rw [uI_same]
      exact (if_neg (by decide)).trans ((if_neg (by decide)).trans ((if_neg (by decide)).trans h2))
    rw [y3, xp_97_5, uI_same, uI_uI]
    refine ⟨_, rfl, o0.tr ⟨fun q h => if_neg h, fun j x3 x4 x5 _ => ?_, fun _ _ => rfl, fun _ _ => rfl, rfl⟩, ?_, ?_, ?_, ?_, fun h => absurd h (show ¬ ((0 : Int32) = 1 ∨ (0 : Int32) = 2) by decide)⟩
    · rw [uI_same]
      exact (if_neg x5).trans ((if_neg x4).trans ((if_neg x3).trans (if_neg x5)))
    · rw [uI_same]
      exact (if_neg (by decide)).trans (if_pos rfl)
    · rw [uI_same]
      exact (if_neg (by decide)).trans ((if_neg (by decide)).trans (if_pos rfl))
    · rw [uI_same]
      exact ((if_neg (by decide)).trans ((if_neg (by decide)).trans ((if_neg (by decide)).trans (if_neg (by decide))))).trans h6
    · rw [uI_same]
      exact if_pos rfl
theorem x_next {d n b : Nat} {s : mjSt3} (hn : n ≤ 3000) (he : s.1 97 2 = nI n) (h5 : s.1 97 5 = nI b) (hbn : b ≤ n) (hb : ∀ i, i < n → byR (s.1 98 i)) : ∃ s', mjF (d + 3) 262 [.ref 97] (mjW0 s) = some (none, mjW0 s') ∧ nxS s s' (skB (s.1 98) (n - b) false b) (m1 (s.1 98) (s.2.1 99) n (skB (s.1 98) (n - b) false b) (s.1 97 6)) := by
  have r := skB_le (s.1 98) (n - b) false b
  obtain ⟨s', e1, e2⟩ := x_nxE (d := d) (p := skB (s.1 98) (n - b) false b) hn (by omega) he hb
  refine ⟨s', ?_, e2⟩
  rw [e_262]
  unfold f_262
  unfold b_262_0
  have e4 : ∀ k : mjH → mjU, pI (mjW0 s) 97 12 4 (nI b) k = k (mjW0 (goAt s b)) := fun k => xp_97_4
  rw [xg_97_5, h5, e4, lq_10 hn he hb (n - b) (n - b) b mjN (Nat.le_refl _) (by omega) (by unfold mjN; omega)]
  exact e1
end
section
/-! ===== class and reference cut the same: signs, numbers ===== -/
theorem by_sgn : (List.range 256).all (fun j => decide ((Int32.ofInt ((j : Int) - 128) ≤ 0 ∨ ¬ 0 ≤ ixF (Int32.ofInt ((j : Int) - 128)) 16 0) ↔ ¬ (Int32.ofInt ((j : Int) - 128) &&& 255) ∈ sgM) && (decide (Int32.ofInt ((j : Int) - 128) ≤ 0) || decide (Int32.ofInt ((j : Int) - 128) &&& 255 = Int32.ofInt ((j : Int) - 128)))) = true := by decide +kernel
theorem by_sg {b : Int32} (h : byR b) : ((b ≤ 0 ∨ ¬ 0 ≤ ixF b 16 0) ↔ ¬ (b &&& 255) ∈ sgM) ∧ (b ≤ 0 ∨ b &&& 255 = b) := by
  obtain ⟨j, hj, rfl⟩ := by_of h
  have k := List.all_eq_true.mp by_sgn j (List.mem_range.mpr hj)
  simp only [Bool.and_eq_true, Bool.or_eq_true, decide_eq_true_eq] at k
  exact k
theorem lk_61 {tx : Nat → Int32} {n i : Nat} (h : i < n → byR (tx i)) : lk tx n i = 61 ↔ i < n ∧ tx i = 61 := by
  unfold lk
  by_cases g : i < n
  · rw [if_pos g, by_eq (h g) (by decide)]
    exact ⟨fun e => ⟨g, e⟩, fun e => e.2⟩
  · rw [if_neg g]
    exact ⟨fun e => absurd e (by decide), fun e => absurd e.1 g⟩
/-- a sign: class's kind and reference's sort and number -/
theorem same_sign {tx : Nat → Int32} {n p : Nat} (hb : ∀ i, i < n → byR (tx i)) (hp : p < n) :
    (lk tx n (p + 1) = 61 ∧ ((tx p &&& 255) = 61 ∨ (tx p &&& 255) = 33) ∧ sgT tx n p = (if (tx p &&& 255) = 61 then 200 else 201, p + 2)) ∨
    (¬ (lk tx n (p + 1) = 61 ∧ ((tx p &&& 255) = 61 ∨ (tx p &&& 255) = 33)) ∧ (((tx p &&& 255) ∈ sgM ∧ sgT tx n p = (tx p &&& 255, p + 1)) ∨ (¬ (tx p &&& 255) ∈ sgM ∧ sgT tx n p = (0, n)))) := by
  have B := hb p hp
  have a61 : (tx p &&& 255) = 61 ↔ tx p = 61 := by_eq B (by decide)
  have a33 : (tx p &&& 255) = 33 ↔ tx p = 33 := by_eq B (by decide)
  have L := lk_61 (tx := tx) (n := n) (i := p + 1) (fun h => hb _ h)
  have S := by_sg B
  by_cases h : lk tx n (p + 1) = 61 ∧ ((tx p &&& 255) = 61 ∨ (tx p &&& 255) = 33)
  · refine Or.inl ⟨h.1, h.2, ?_⟩
    have c : p + 1 < n ∧ tx (p + 1) = 61 ∧ (tx p = 61 ∨ tx p = 33) := ⟨(L.mp h.1).1, (L.mp h.1).2, h.2.elim (fun e => Or.inl (a61.mp e)) (fun e => Or.inr (a33.mp e))⟩
    unfold sgT
    rw [if_pos c]
    by_cases g : tx p = 61
    · rw [if_pos g, if_pos (a61.mpr g)]
    · rw [if_neg g, if_neg (fun e => g (a61.mp e))]
  · refine Or.inr ⟨h, ?_⟩
    have c : ¬ (p + 1 < n ∧ tx (p + 1) = 61 ∧ (tx p = 61 ∨ tx p = 33)) := fun e => h ⟨L.mpr ⟨e.1, e.2.1⟩, e.2.2.elim (fun e => Or.inl (a61.mpr e)) (fun e => Or.inr (a33.mpr e))⟩
    unfold sgT
    rw [if_neg c]
    by_cases g : (tx p &&& 255) ∈ sgM
    · refine Or.inl ⟨g, ?_⟩
      have g2 : ¬ (tx p ≤ 0 ∨ ¬ 0 ≤ ixF (tx p) 16 0) := fun e => (S.1.mp e) g
      rw [if_neg g2, S.2.resolve_left (fun e => g2 (Or.inl e))]
    · exact Or.inr ⟨g, if_pos (S.1.mpr g)⟩
theorem by_255d : (List.range 256).all (fun j => !isDb (Int32.ofInt ((j : Int) - 128)) || decide (Int32.ofInt ((j : Int) - 128) &&& 255 = Int32.ofInt ((j : Int) - 128))) = true := by decide +kernel
theorem by_dd {b : Int32} (h : byR b) (g : isDb b = true) : b &&& 255 = b := by
  obtain ⟨j, hj, rfl⟩ := by_of h
  have k := List.all_eq_true.mp by_255d j (List.mem_range.mpr hj)
  simp only [Bool.or_eq_true, decide_eq_true_eq, g] at k
  simpa using k
/-- a number of at most nine digits: the reference's int is the class's long -/
theorem same_num {tx : Nat → Int32} {p : Nat} : ∀ (k : Nat) (v : Int32) (w : Int64) (i : Nat), (∀ q, q < i + k → byR (tx q)) → v = w.toInt32 → (scV tx p k v i).2 - p ≤ 9 → p ≤ i → (scV tx p k v i).1 = (scD tx k w i).1.toInt32
  | 0, v, w, i, _, e, _, _ => e
  | k + 1, v, w, i, hb, e, h, hp => by
    unfold scV at h ⊢
    unfold scD
    by_cases g : isDb (tx i) = true
    · rw [if_pos g] at h ⊢
      rw [if_pos g]
      have r := scD_le tx k 0 (i + 1)
      rw [← scV_end tx p k (if 9 ≤ i - p then v else 10 * v + (tx i &&& 255) - 48) 0 (i + 1)] at r
      have h9 : ¬ 9 ≤ i - p := by omega
      rw [if_neg h9] at h ⊢
      refine same_num k _ _ (i + 1) (fun q hq => hb q (by omega)) ?_ h (by omega)
      rw [by_dd (hb i (by omega)) g, e, Int64.toInt32_add, Int64.toInt32_mul, Int32.toInt32_toInt64, Int32.mul_comm, show (10 : Int64).toInt32 = (10 : Int32) from rfl, Int32.sub_eq_add_neg, Int32.sub_eq_add_neg, Int32.add_assoc]
    · rw [if_neg g, if_neg g]
      exact e
end
section
/-! ===== names as numbers to the base 64, one-to-one ===== -/
def rN (g : Int32 → Nat) : List Int32 → Nat
  | [] => 0
  | b :: l => rN g l * 64 + g b
theorem rN_inj {g : Int32 → Nat} {P : Int32 → Prop} (h1 : ∀ b, P b → 1 ≤ g b ∧ g b < 64) (h2 : ∀ a b, P a → P b → g a = g b → a = b) : ∀ (l m : List Int32), (∀ b ∈ l, P b) → (∀ b ∈ m, P b) → rN g l = rN g m → l = m
  | [], [], _, _, _ => rfl
  | [], b :: m, _, hm, e => by
    have k := h1 b (hm b List.mem_cons_self)
    simp only [rN] at e
    omega
  | a :: l, [], hl, _, e => by
    have k := h1 a (hl a List.mem_cons_self)
    simp only [rN] at e
    omega
  | a :: l, b :: m, hl, hm, e => by
    have ka := h1 a (hl a List.mem_cons_self)
    have kb := h1 b (hm b List.mem_cons_self)
    simp only [rN] at e
    have e1 : g a = g b := by omega
    have e2 : rN g l = rN g m := by omega
    rw [h2 a b (hl a List.mem_cons_self) (hm b List.mem_cons_self) e1, rN_inj h1 h2 l m (fun b hb => hl b (List.mem_cons_of_mem _ hb)) (fun b hb => hm b (List.mem_cons_of_mem _ hb)) e2]
theorem rN_lt {g : Int32 → Nat} {P : Int32 → Prop} (h1 : ∀ b, P b → 1 ≤ g b ∧ g b < 64) : ∀ l : List Int32, (∀ b ∈ l, P b) → rN g l < 64 ^ l.length
  | [], _ => by simp [rN]
  | b :: l, hl => by
    have k := h1 b (hl b List.mem_cons_self)
    have r := rN_lt h1 l (fun b hb => hl b (List.mem_cons_of_mem _ hb))
    simp only [rN, List.length_cons, Nat.pow_succ]
    omega
def isW (b : Int32) : Prop := byR b ∧ (isLb b = true ∨ isDb b = true)
def gC (b : Int32) : Nat := (cdC b).toNatClampNeg
def gM (b : Int32) : Nat := (cdM (b &&& 255)).toNatClampNeg
theorem cd_tab : (List.range 256).all (fun j => !(isLb (Int32.ofInt ((j : Int) - 128)) || isDb (Int32.ofInt ((j : Int) - 128))) || (decide (1 ≤ gC (Int32.ofInt ((j : Int) - 128))) && decide (gC (Int32.ofInt ((j : Int) - 128)) < 64) && decide (1 ≤ gM (Int32.ofInt ((j : Int) - 128))) && decide (gM (Int32.ofInt ((j : Int) - 128)) < 64) && decide (cdC (Int32.ofInt ((j : Int) - 128)) = nI (gC (Int32.ofInt ((j : Int) - 128)))) && decide (cdM (Int32.ofInt ((j : Int) - 128) &&& 255) = nI (gM (Int32.ofInt ((j : Int) - 128)))) && decide (Int32.ofInt ((j : Int) - 128) = (if gC (Int32.ofInt ((j : Int) - 128)) < 11 then nI (gC (Int32.ofInt ((j : Int) - 128)) + 47) else if gC (Int32.ofInt ((j : Int) - 128)) < 37 then nI (gC (Int32.ofInt ((j : Int) - 128)) + 54) else nI (gC (Int32.ofInt ((j : Int) - 128)) + 60))) && decide (Int32.ofInt ((j : Int) - 128) = (if gM (Int32.ofInt ((j : Int) - 128)) < 27 then nI (gM (Int32.ofInt ((j : Int) - 128)) + 96) else if gM (Int32.ofInt ((j : Int) - 128)) < 53 then nI (gM (Int32.ofInt ((j : Int) - 128)) + 38) else nI (gM (Int32.ofInt ((j : Int) - 128)) - 5))))) = true := by decide +kernel
theorem cd_of {b : Int32} (h : isW b) : (1 ≤ gC b ∧ gC b < 64) ∧ (1 ≤ gM b ∧ gM b < 64) ∧ cdC b = nI (gC b) ∧ cdM (b &&& 255) = nI (gM b) ∧ b = (if gC b < 11 then nI (gC b + 47) else if gC b < 37 then nI (gC b + 54) else nI (gC b + 60)) ∧ b = (if gM b < 27 then nI (gM b + 96) else if gM b < 53 then nI (gM b + 38) else nI (gM b - 5)) := by
  obtain ⟨h1, h2⟩ := h
  obtain ⟨j, hj, rfl⟩ := by_of h1
  have k := List.all_eq_true.mp cd_tab j (List.mem_range.mpr hj)
  have h3 : (isLb (Int32.ofInt ((j : Int) - 128)) || isDb (Int32.ofInt ((j : Int) - 128))) = true := by simpa using h2
  rw [h3] at k
  simp only [Bool.not_true, Bool.false_or, Bool.and_eq_true, decide_eq_true_eq] at k
  obtain ⟨⟨⟨⟨⟨⟨⟨a, b⟩, c⟩, d⟩, e⟩, f⟩, g⟩, h⟩ := k
  exact ⟨⟨a, b⟩, ⟨c, d⟩, e, f, g, h⟩
theorem gC_inj (a b : Int32) (ha : isW a) (hb : isW b) (e : gC a = gC b) : a = b := by
  rw [(cd_of ha).2.2.2.2.1, (cd_of hb).2.2.2.2.1, e]
theorem gM_inj (a b : Int32) (ha : isW a) (hb : isW b) (e : gM a = gM b) : a = b := by
  rw [(cd_of ha).2.2.2.2.2, (cd_of hb).2.2.2.2.2, e]
/-- two spellings are the same for the class just where they are so for the reference -/
theorem same_name {l m : List Int32} (hl : ∀ b ∈ l, isW b) (hm : ∀ b ∈ m, isW b) : rN gC l = rN gC m ↔ rN gM l = rN gM m := by
  constructor
  · intro e
    rw [rN_inj (P := isW) (fun b hb => (cd_of hb).1) gC_inj l m hl hm e]
  · intro e
    rw [rN_inj (P := isW) (fun b hb => (cd_of hb).2.1) gM_inj l m hl hm e]
end
section
/-! ===== a name's letters; class's key and reference's name out of them ===== -/
/-- the letters and digits from i on, the last first; the end -/
def scL (tx : Nat → Int32) : Nat → List Int32 → Nat → List Int32 × Nat
  | 0, l, i => (l, i)
  | k + 1, l, i => if isLb (tx i) = true ∨ isDb (tx i) = true then scL tx k (tx i :: l) (i + 1) else (l, i)
theorem scL_w {tx : Nat → Int32} : ∀ (k : Nat) (l : List Int32) (i : Nat), (∀ q, q < i + k → byR (tx q)) → (∀ b ∈ l, isW b) → ∀ b ∈ (scL tx k l i).1, isW b
  | 0, l, i, _, h => h
  | k + 1, l, i, hb, h => by
    unfold scL
    by_cases g : isLb (tx i) = true ∨ isDb (tx i) = true
    · rw [if_pos g]
      refine scL_w k _ (i + 1) (fun q hq => hb q (by omega)) ?_
      intro b hm
      rcases List.mem_cons.mp hm with e | e
      · rw [e]; exact ⟨hb i (by omega), g⟩
      · exact h b e
    · rw [if_neg g]; exact h
theorem scL_len {tx : Nat → Int32} : ∀ (k : Nat) (l : List Int32) (i : Nat), (scL tx k l i).1.length + i = l.length + (scL tx k l i).2
  | 0, l, i => rfl
  | k + 1, l, i => by
    unfold scL
    by_cases g : isLb (tx i) = true ∨ isDb (tx i) = true
    · rw [if_pos g]
      have r := scL_len (tx := tx) k (tx i :: l) (i + 1)
      simp only [List.length_cons] at r
      omega
    · rw [if_neg g]
theorem scN_L {tx : Nat → Int32} : ∀ (k : Nat) (l : List Int32) (i : Nat), (∀ q, q < i + k → byR (tx q)) → scN tx k (lN (rN gC l)) i = (lN (rN gC (scL tx k l i).1), (scL tx k l i).2)
  | 0, l, i, _ => rfl
  | k + 1, l, i, hb => by
    have step : (isLb (tx i) = true ∨ isDb (tx i) = true) → lN (rN gC l) * 64 + (cdC (tx i)).toInt64 = lN (rN gC (tx i :: l)) := by
      intro g
      have c := cd_of (b := tx i) ⟨hb i (by omega), g⟩
      rw [c.2.2.1, nI_l (by omega), show (64 : Int64) = lN 64 from rfl, lN_mul, lN_add]
      rfl
    unfold scN scL
    by_cases g1 : isLb (tx i) = true
    · rw [if_pos g1, if_pos (Or.inl g1), step (Or.inl g1)]
      exact scN_L k _ (i + 1) (fun q hq => hb q (by omega))
    · rw [if_neg g1]
      by_cases g2 : isDb (tx i) = true
      · rw [if_pos g2, if_pos (Or.inr g2), step (Or.inr g2)]
        exact scN_L k _ (i + 1) (fun q hq => hb q (by omega))
      · rw [if_neg g2, if_neg (fun e => e.elim g1 g2)]
theorem scW_L {tx : Nat → Int32} {p : Nat} : ∀ (k : Nat) (l : List Int32) (i : Nat), (∀ q, q < i + k → byR (tx q)) → p ≤ i → (scL tx k l i).2 - p ≤ 10 → scW tx p k (lN (rN gM l)) i = (lN (rN gM (scL tx k l i).1), (scL tx k l i).2)
  | 0, l, i, _, _, _ => rfl
  | k + 1, l, i, hb, hp, h => by
    unfold scL at h
    unfold scW scL
    by_cases g : isLb (tx i) = true ∨ isDb (tx i) = true
    · rw [if_pos g] at h
      rw [if_pos g, if_pos g]
      have r := scL_len (tx := tx) k (tx i :: l) (i + 1)
      have r2 : i + 1 ≤ (scL tx k (tx i :: l) (i + 1)).2 := by
        have n := scN_L (tx := tx) k (tx i :: l) (i + 1) (fun q hq => hb q (by omega))
        have s := (scN_le tx k (lN (rN gC (tx i :: l))) (i + 1)).1
        rw [n] at s
        exact s
      have c := cd_of (b := tx i) ⟨hb i (by omega), g⟩
      have e : 64 * lN (rN gM l) + (cdM (tx i &&& 255)).toInt64 = lN (rN gM (tx i :: l)) := by
        rw [c.2.2.2.1, nI_l (by omega), show (64 : Int64) = lN 64 from rfl, lN_mul, lN_add, Nat.mul_comm]
        rfl
      rw [if_neg (show ¬ 10 ≤ i - p by omega), e]
      exact scW_L k _ (i + 1) (fun q hq => hb q (by omega)) (by omega) h
    · rw [if_neg g, if_neg g]
/-- names of at most ten signs: the class's keys are the same just where the reference's names are -/
theorem same_key {l m : List Int32} (hl : ∀ b ∈ l, isW b) (hm : ∀ b ∈ m, isW b) (l1 : l.length ≤ 10) (l2 : m.length ≤ 10) : lN (rN gC l) = lN (rN gC m) ↔ lN (rN gM l) = lN (rN gM m) := by
  have big : ∀ (g : Int32 → Nat), (∀ b, isW b → 1 ≤ g b ∧ g b < 64) → ∀ x : List Int32, (∀ b ∈ x, isW b) → x.length ≤ 10 → rN g x < 2 ^ 63 := by
    intro g hg x hx hl
    have a := rN_lt (P := isW) hg x hx
    have b : 64 ^ x.length ≤ 64 ^ 10 := Nat.pow_le_pow_right (by decide) hl
    have c : (64 : Nat) ^ 10 < 2 ^ 63 := by decide
    omega
  have inj : ∀ {a b : Nat}, a < 2 ^ 63 → b < 2 ^ 63 → lN a = lN b → a = b := by
    intro a b ha hb e
    have k : (lN a).toInt = (lN b).toInt := by rw [e]
    rw [pk_lT ha, pk_lT hb] at k
    omega
  have s := same_name hl hm
  constructor
  · intro e
    rw [s.mp (inj (big gC (fun b hb => (cd_of hb).1) l hl l1) (big gC (fun b hb => (cd_of hb).1) m hm l2) e)]
  · intro e
    rw [s.mpr (inj (big gM (fun b hb => (cd_of hb).2.1) l hl l1) (big gM (fun b hb => (cd_of hb).2.1) m hm l2) e)]
end
section
/-! ===== the words; one token, in the middle between class and reference ===== -/
/-- the sixteen words, the last letter first -/
def wdL : List (List Int32) := [[115, 115, 97, 108, 99], [115, 105], [101, 114, 101, 104, 119], [110, 105], [110, 105, 97, 109], [116, 110, 105], [108, 108, 117, 110], [115, 105, 104, 116], [100, 108, 114, 111, 119], [119, 101, 110], [102, 105], [101, 115, 108, 101], [101, 108, 105, 104, 119], [110, 114, 117, 116, 101, 114], [121, 97, 115], [115, 97]]
theorem wd_ok : wdL.all (fun l => l.all (fun b => decide (¬ b < -128 ∧ b ≤ 127) && (isLb b || isDb b)) && decide (l.length ≤ 10)) = true := by decide +kernel
theorem wd_ne : (List.range 16).all (fun i => (List.range 16).all (fun j => decide (i = j) || decide (¬ wdL.getD i [] = wdL.getD j []))) = true := by decide +kernel
theorem wd_w {i : Nat} (hi : i < 16) : (∀ b ∈ wdL.getD i [], isW b) ∧ (wdL.getD i []).length ≤ 10 := by
  have hm : wdL.getD i [] ∈ wdL := by
    have hl : i < wdL.length := hi
    rw [List.getD_eq_getElem?_getD, List.getElem?_eq_getElem hl]
    exact List.getElem_mem hl
  have h := List.all_eq_true.mp wd_ok _ hm
  simp only [Bool.and_eq_true, decide_eq_true_eq, List.all_eq_true, Bool.or_eq_true] at h
  exact ⟨fun b hb => ⟨(h.1 b hb).1, (h.1 b hb).2⟩, h.2⟩
theorem wd_in {i j : Nat} (hi : i < 16) (hj : j < 16) (e : wdL.getD i [] = wdL.getD j []) : i = j := by
  have h := List.all_eq_true.mp (List.all_eq_true.mp wd_ne i (List.mem_range.mpr hi)) j (List.mem_range.mpr hj)
  simp only [Bool.or_eq_true, decide_eq_true_eq] at h
  exact h.elim id (fun g => absurd e g)
/-- the rows of words on both sides -/
def I_words (s : mjSt3) : Prop := ∀ i, i < 16 → s.2.1 59 i = lN (rN gC (wdL.getD i [])) ∧ s.2.1 99 (i + 1) = lN (rN gM (wdL.getD i []))
theorem rN_big {g : Int32 → Nat} (hg : ∀ b, isW b → 1 ≤ g b ∧ g b < 64) {x : List Int32} (hx : ∀ b ∈ x, isW b) (hl : x.length ≤ 10) : rN g x < 2 ^ 63 := by
  have a := rN_lt (P := isW) hg x hx
  have b : 64 ^ x.length ≤ 64 ^ 10 := Nat.pow_le_pow_right (by decide) hl
  have c : (64 : Nat) ^ 10 < 2 ^ 63 := by decide
  omega
theorem lN_inj {a b : Nat} (ha : a < 2 ^ 63) (hb : b < 2 ^ 63) (e : lN a = lN b) : a = b := by
  have k : (lN a).toInt = (lN b).toInt := by rw [e]
  rw [pk_lT ha, pk_lT hb] at k
  omega
theorem key_C {l m : List Int32} (hl : ∀ b ∈ l, isW b) (hm : ∀ b ∈ m, isW b) (l1 : l.length ≤ 10) (l2 : m.length ≤ 10) : lN (rN gC l) = lN (rN gC m) ↔ l = m := by
  refine ⟨fun e => ?_, fun e => by rw [e]⟩
  have e1 := lN_inj (rN_big (fun b hb => (cd_of hb).1) hl l1) (rN_big (fun b hb => (cd_of hb).1) hm l2) e
  exact rN_inj (fun b hb => (cd_of hb).1) gC_inj l m hl hm e1
theorem key_M {l m : List Int32} (hl : ∀ b ∈ l, isW b) (hm : ∀ b ∈ m, isW b) (l1 : l.length ≤ 10) (l2 : m.length ≤ 10) : lN (rN gM l) = lN (rN gM m) ↔ l = m :=
  (same_key hl hm l1 l2).symm.trans (key_C hl hm l1 l2)
/-- the kind of these letters: a word's number, or 3 -/
def wdX (l : List Int32) : Nat → Nat → Int32
  | 0, _ => 3
  | k + 1, i => if wdL.getD i [] = l then 5 + nI i else wdX l k (i + 1)
theorem wdX_none (l : List Int32) : ∀ (k i : Nat), (∀ j, i ≤ j → j < i + k → ¬ wdL.getD j [] = l) → wdX l k i = 3
  | 0, _, _ => rfl
  | k + 1, i, h => by
    unfold wdX
    rw [if_neg (h i (Nat.le_refl i) (by omega))]
    exact wdX_none l k (i + 1) (fun j h1 h2 => h j (by omega) (by omega))
theorem wdF_X {w : Nat → Int64} {l : List Int32} (hw : ∀ i, i < 16 → w i = lN (rN gC (wdL.getD i []))) (hl : ∀ b ∈ l, isW b) (h10 : l.length ≤ 10) : ∀ (k i : Nat), i + k ≤ 16 → wdF w (lN (rN gC l)) k i = wdX l k i
  | 0, _, _ => rfl
  | k + 1, i, h => by
    unfold wdF wdX
    have e := key_C (wd_w (i := i) (by omega)).1 hl (wd_w (i := i) (by omega)).2 h10
    rw [hw i (by omega), wdF_X hw hl h10 k (i + 1) (by omega)]
    simp only [e]
theorem i5 (i : Nat) : (5 : Int32) + nI i = nI (5 + i) := nI_add 5 i
theorem wdX_3 (l : List Int32) : ∀ (k i : Nat), i + k ≤ 16 → wdX l k i = 3 ∨ ∃ j, i ≤ j ∧ j < i + k ∧ wdX l k i = nI (5 + j)
  | 0, _, _ => Or.inl rfl
  | k + 1, i, h => by
    unfold wdX
    by_cases g : wdL.getD i [] = l
    · rw [if_pos g, i5]
      exact Or.inr ⟨i, Nat.le_refl i, by omega, rfl⟩
    · rw [if_neg g]
      rcases wdX_3 l k (i + 1) (by omega) with e | ⟨j, a, b, e⟩
      · exact Or.inl e
      · exact Or.inr ⟨j, by omega, by omega, e⟩
theorem nI_n3 {j : Nat} (h : j < 16) : ¬ nI (5 + j) = 3 := by
  intro e
  have k := (nI_eq (a := 5 + j) (b := 3) (by omega) (by omega)).mp e
  omega
theorem kwF_X {kp : Nat → Int64} {l : List Int32} (hw : ∀ i, i < 16 → kp (i + 1) = lN (rN gM (wdL.getD i []))) (hl : ∀ b ∈ l, isW b) (h10 : l.length ≤ 10) : ∀ (k i : Nat) (z : Int32 × Int32), i + k ≤ 16 → kwF kp (lN (rN gM l)) k (i + 1) z = if wdX l k i = 3 then z else (5, wdX l k i - 4)
  | 0, _, _, _ => rfl
  | k + 1, i, z, h => by
    unfold kwF
    rw [kwF_X hw hl h10 k (i + 1) _ (by omega)]
    have e := key_M (wd_w (i := i) (by omega)).1 hl (wd_w (i := i) (by omega)).2 h10
    rw [hw i (by omega)]
    have ex : wdX l (k + 1) i = if wdL.getD i [] = l then 5 + nI i else wdX l k (i + 1) := rfl
    rw [ex]
    by_cases g : wdL.getD i [] = l
    · have n : wdX l k (i + 1) = 3 := wdX_none l k (i + 1) (fun j h1 h2 q => by
        have := wd_in (i := i) (j := j) (by omega) (by omega) (g.trans q.symm)
        omega)
      rw [if_pos n, if_pos (e.mpr g), if_pos g, i5, if_neg (nI_n3 (by omega))]
      have q : nI (5 + i) - (4 : Int32) = nI (i + 1) := by
        have := pk_sub (a := 5 + i) (b := 4) (by omega)
        rw [show (4 : Int32) = Int32.ofNat 4 from rfl]
        rw [show 5 + i - 4 = i + 1 by omega] at this
        exact this
      rw [q]
    · rw [if_neg (fun q => g (e.mp q)), if_neg g]
/-- sort and number of a kind -/
def srt (k : Int32) : Int32 := if k = 0 then 0 else if k = 1 then 6 else if k = 2 then 1 else if k = 3 then 2 else if k = 4 then 3 else if k ≤ 20 then 5 else 4
def nbr (k v : Int32) : Int32 := if k = 4 then v else if k ≤ 20 then k - 4 else if k = 200 then 257 else if k = 201 then 258 else k
/-- one token: kind, letters, value, end -/
def t1 (tx : Nat → Int32) (n fr : Nat) : Int32 × List Int32 × Int32 × Nat :=
  if isLb (tx fr) = true then (if (scL tx (n - fr) [] fr).2 - fr ≤ 10 then (if 90 < tx fr then wdX (scL tx (n - fr) [] fr).1 16 0 else 2, (scL tx (n - fr) [] fr).1, 0, (scL tx (n - fr) [] fr).2) else (1, [], 0, n))
  else if isDb (tx fr) = true then (if (scD tx (n - fr) 0 fr).2 - fr ≤ 9 then (4, [], (scD tx (n - fr) 0 fr).1.toInt32, (scD tx (n - fr) 0 fr).2) else (1, [], 0, n))
  else if (sgT tx n fr).1 = 0 then (1, [], 0, n) else ((sgT tx n fr).1, [], 0, (sgT tx n fr).2)
theorem scL_10 {tx : Nat → Int32} {n fr : Nat} (h : (scL tx (n - fr) [] fr).2 - fr ≤ 10) : (scL tx (n - fr) [] fr).1.length ≤ 10 := by
  have a := scL_len (tx := tx) (n - fr) [] fr
  simp only [List.length_nil] at a
  omega
theorem scN_0 {tx : Nat → Int32} {n fr : Nat} (hf : fr ≤ n) (hb : ∀ i, i < n → byR (tx i)) : scN tx (n - fr) 0 fr = (lN (rN gC (scL tx (n - fr) [] fr).1), (scL tx (n - fr) [] fr).2) :=
  scN_L (n - fr) [] fr (fun q hq => hb q (by omega))
theorem scW_0 {tx : Nat → Int32} {n fr : Nat} (hf : fr ≤ n) (hb : ∀ i, i < n → byR (tx i)) (h : (scL tx (n - fr) [] fr).2 - fr ≤ 10) : scW tx fr (n - fr) 0 fr = (lN (rN gM (scL tx (n - fr) [] fr).1), (scL tx (n - fr) [] fr).2) :=
  scW_L (n - fr) [] fr (fun q hq => hb q (by omega)) (Nat.le_refl fr) h
/-- the class cuts t1 -/
theorem c1_t1 {tx : Nat → Int32} {w : Nat → Int64} {n fr : Nat} (hw : ∀ i, i < 16 → w i = lN (rN gC (wdL.getD i []))) (hf : fr < n) (hb : ∀ i, i < n → byR (tx i)) :
    (c1 tx w n fr).1 = (t1 tx n fr).1 ∧ (c1 tx w n fr).2.2 = (t1 tx n fr).2.2.2 ∧ (isLb (tx fr) = true → ¬ (t1 tx n fr).1 = 1 → (c1 tx w n fr).2.1 = lN (rN gC (t1 tx n fr).2.1)) ∧ ((t1 tx n fr).1 = 4 → (c1 tx w n fr).2.1.toInt32 = (t1 tx n fr).2.2.1) := by
  unfold c1 t1
  by_cases h1 : isLb (tx fr) = true
  · rw [if_pos h1, if_pos h1, scN_0 (by omega) hb]
    by_cases g : (scL tx (n - fr) [] fr).2 - fr ≤ 10
    · rw [if_pos g, if_pos g]
      have hl := scL_w (tx := tx) (n - fr) [] fr (fun q hq => hb q (by omega)) (fun b hb => nomatch hb)
      have e := wdF_X hw hl (scL_10 g) 16 0 (by omega)
      refine ⟨?_, rfl, fun _ _ => rfl, ?_⟩
      · show (if 90 < tx fr then wdF w (lN (rN gC (scL tx (n - fr) [] fr).1)) 16 0 else 2) = _
        rw [e]
      · intro q
        exfalso
        by_cases u : 90 < tx fr
        · rw [if_pos u] at q
          rcases wdX_3 (scL tx (n - fr) [] fr).1 16 0 (by omega) with x | ⟨j, _, b, x⟩
          · rw [x] at q; exact absurd (show (3 : Int32) = 4 from q) (by decide)
          · rw [x] at q
            have := (nI_eq (a := 5 + j) (b := 4) (by omega) (by omega)).mp q
            omega
        · rw [if_neg u] at q; exact absurd (show (2 : Int32) = 4 from q) (by decide)
    · rw [if_neg g, if_neg g]
      exact ⟨rfl, rfl, fun _ q => absurd rfl q, fun q => absurd (show (1 : Int32) = 4 from q) (by decide)⟩
  · rw [if_neg h1, if_neg h1]
    by_cases h2 : isDb (tx fr) = true
    · rw [if_pos h2, if_pos h2]
      by_cases g : (scD tx (n - fr) 0 fr).2 - fr ≤ 9
      · rw [if_pos g, if_pos g]
        exact ⟨rfl, rfl, fun q => absurd q h1, fun _ => rfl⟩
      · rw [if_neg g, if_neg g]
        exact ⟨rfl, rfl, fun q => absurd q h1, fun q => absurd (show (1 : Int32) = 4 from q) (by decide)⟩
    · rw [if_neg h2, if_neg h2]
      by_cases g : (sgT tx n fr).1 = 0
      · rw [if_pos g, if_pos g]
        exact ⟨rfl, rfl, fun q => absurd q h1, fun q => absurd (show (1 : Int32) = 4 from q) (by decide)⟩
      · rw [if_neg g, if_neg g]
        refine ⟨rfl, rfl, fun q => absurd q h1, fun q => ?_⟩
        exfalso
        rcases same_sign hb hf with ⟨_, _, e⟩ | ⟨_, ⟨m, e⟩ | ⟨_, e⟩⟩
        · have q' : (sgT tx n fr).1 = 4 := q
          rw [e] at q'
          by_cases u : (tx fr &&& 255) = 61
          · simp only [if_pos u] at q'; exact absurd q' (by decide)
          · simp only [if_neg u] at q'; exact absurd q' (by decide)
        · have q' : (sgT tx n fr).1 = 4 := q
          rw [e] at q'
          have q2 : (tx fr &&& 255) = 4 := q'
          rw [q2] at m
          exact absurd m (by decide)
        · exact g (by rw [e])
end
section
/-! ===== the reference cuts the same token; the tokens by number ===== -/
theorem by_lbd : (List.range 256).all (fun j => !isLb (Int32.ofInt ((j : Int) - 128)) || (decide (Int32.ofInt ((j : Int) - 128) &&& 255 = Int32.ofInt ((j : Int) - 128)) && !isDb (Int32.ofInt ((j : Int) - 128)))) = true := by decide +kernel
theorem by_lb {b : Int32} (h : byR b) (g : isLb b = true) : (b &&& 255) = b ∧ ¬ isDb b = true := by
  obtain ⟨j, hj, e⟩ := by_of h
  have k := List.all_eq_true.mp by_lbd j (List.mem_range.mpr hj)
  rw [← e, g] at k
  simpa using k
theorem srt_w {j : Nat} (h : j < 16) : srt (nI (5 + j)) = 5 ∧ ¬ nI (5 + j) = 4 ∧ nI (5 + j) ≤ 20 := by
  have k : (List.range 16).all (fun j => decide (srt (nI (5 + j)) = 5 ∧ ¬ nI (5 + j) = 4 ∧ nI (5 + j) ≤ 20)) = true := by decide +kernel
  have := List.all_eq_true.mp k j (List.mem_range.mpr h)
  simpa using this
theorem sg_chk : sgM.all (fun c => decide (srt c = 4 ∧ nbr c 0 = c ∧ ¬ c = 1 ∧ ¬ c = 0)) = true := by decide +kernel
theorem sg_ok {c : Int32} (h : c ∈ sgM) : srt c = 4 ∧ nbr c 0 = c ∧ ¬ c = 1 ∧ ¬ c = 0 := by
  have k := List.all_eq_true.mp sg_chk c h
  simpa using k
/-- a token of the reference is that one -/
def mtR (m : Int32 × Int32 × Int64 × Nat) (t : Int32 × List Int32 × Int32 × Nat) : Prop := m.1 = srt t.1 ∧ (¬ t.1 = 1 → m.2.2.2 = t.2.2.2 ∧ (srt t.1 = 3 ∨ srt t.1 = 4 ∨ srt t.1 = 5 → m.2.1 = nbr t.1 t.2.2.1) ∧ (srt t.1 = 1 ∨ srt t.1 = 2 → m.2.2.1 = lN (rN gM t.2.1)))
theorem mtR_bad {x : Int32} {y : Int64} {z : Nat} {l : List Int32} {v : Int32} {e : Nat} : mtR (6, x, y, z) (1, l, v, e) := ⟨show (6 : Int32) = srt 1 by decide, fun q => absurd rfl q⟩
theorem mtR_name {x : Int32} {z : Nat} {l : List Int32} {v k k' : Int32} (h1 : k' = srt k) (h : k' = 1 ∨ k' = 2) : mtR (k', x, lN (rN gM l), z) (k, l, v, z) := by
  refine ⟨h1, fun _ => ⟨rfl, fun q => ?_, fun _ => rfl⟩⟩
  exfalso
  have q' : srt k = 3 ∨ srt k = 4 ∨ srt k = 5 := q
  rw [← h1] at q'
  rcases h with h | h <;> rw [h] at q' <;> exact absurd q' (by decide)
theorem mtR_num {x : Int32} {z : Nat} {l : List Int32} {v k k' : Int32} {y : Int64} (h1 : k' = srt k) (h : k' = 3 ∨ k' = 4 ∨ k' = 5) (h2 : x = nbr k v) : mtR (k', x, y, z) (k, l, v, z) := by
  refine ⟨h1, fun _ => ⟨rfl, fun _ => h2, fun q => ?_⟩⟩
  exfalso
  have q' : srt k = 1 ∨ srt k = 2 := q
  rw [← h1] at q'
  rcases h with h | h | h <;> rw [h] at q' <;> exact absurd q' (by decide)
theorem m1_t1 {tx : Nat → Int32} {kp : Nat → Int64} {n fr : Nat} (old : Int32) (hw : ∀ i, i < 16 → kp (i + 1) = lN (rN gM (wdL.getD i []))) (hf : fr < n) (hb : ∀ i, i < n → byR (tx i)) : mtR (m1 tx kp n fr old) (t1 tx n fr) := by
  have B := hb fr hf
  unfold m1 t1
  rw [if_pos hf]
  by_cases h1 : isLb (tx fr) = true
  · have x := by_lb B h1
    have e : (scW tx fr (n - fr) 0 fr).2 = (scL tx (n - fr) [] fr).2 := by
      rw [scW_end tx fr (n - fr) 0 0 fr, scN_0 (by omega) hb]
    rw [if_neg x.2, if_pos h1, if_pos h1, x.1, e]
    by_cases g : (scL tx (n - fr) [] fr).2 - fr ≤ 10
    · rw [if_pos g, if_pos g, scW_0 (by omega) hb g]
      have hl := scL_w (tx := tx) (n - fr) [] fr (fun q hq => hb q (by omega)) (fun b hb => nomatch hb)
      have kx := kwF_X hw hl (scL_10 g) 16 0 (2, old) (by omega)
      by_cases u : 90 < tx fr
      · rw [if_pos u, if_pos u, show kwF kp (lN (rN gM (scL tx (n - fr) [] fr).1), (scL tx (n - fr) [] fr).2).1 16 1 (2, old) = _ from kx]
        rcases wdX_3 (scL tx (n - fr) [] fr).1 16 0 (by omega) with q | ⟨j, _, b, q⟩
        · rw [q, if_pos rfl]
          exact mtR_name (k' := 2) (k := 3) (by decide) (by decide)
        · have y := srt_w (j := j) (by omega)
          rw [q, if_neg (nI_n3 (by omega))]
          refine mtR_num (k' := 5) y.1.symm (by decide) ?_
          unfold nbr
          rw [if_neg y.2.1, if_pos y.2.2]
      · rw [if_neg u, if_neg u]
        exact mtR_name (by decide) (by decide)
    · rw [if_neg g, if_neg g]
      exact mtR_bad
  · rw [if_neg h1, if_neg h1]
    by_cases h2 : isDb (tx fr) = true
    · have e := scV_end tx fr (n - fr) 0 0 fr
      rw [if_pos h2, if_pos h2, e]
      by_cases g : (scD tx (n - fr) 0 fr).2 - fr ≤ 9
      · rw [if_pos g, if_pos g]
        have v := same_num (tx := tx) (p := fr) (n - fr) 0 0 fr (fun q hq => hb q (by omega)) (by decide) (by rw [e]; exact g) (Nat.le_refl fr)
        refine mtR_num (by decide) (by decide) ?_
        rw [v]
        rfl
      · rw [if_neg g, if_neg g]
        exact mtR_bad
    · rw [if_neg h2, if_neg h2]
      rcases same_sign hb hf with ⟨a1, a2, e⟩ | ⟨a, ⟨m, e⟩ | ⟨m, e⟩⟩
      · rw [if_pos ⟨a1, a2⟩, e]
        by_cases u : (tx fr &&& 255) = 61
        · rw [if_pos u, if_pos u, if_neg (show ¬ ((200 : Int32), fr + 2).1 = 0 from fun q => absurd (show (200 : Int32) = 0 from q) (by decide))]
          exact mtR_num (k := 200) (v := 0) (by decide) (by decide) (by decide)
        · rw [if_neg u, if_neg u, if_neg (show ¬ ((201 : Int32), fr + 2).1 = 0 from fun q => absurd (show (201 : Int32) = 0 from q) (by decide))]
          exact mtR_num (k := 201) (v := 0) (by decide) (by decide) (by decide)
      · have y := sg_ok m
        rw [if_neg a, e, if_pos m, if_neg (show ¬ ((tx fr &&& 255), fr + 1).1 = 0 from y.2.2.2)]
        exact mtR_num y.1.symm (by decide) y.2.1.symm
      · rw [if_neg a, e, if_neg m, if_pos (show ((0 : Int32), n).1 = 0 from rfl)]
        exact mtR_bad
theorem t1_adv {tx : Nat → Int32} {n fr : Nat} (hf : fr < n) (hb : ∀ i, i < n → byR (tx i)) : fr < (t1 tx n fr).2.2.2 ∧ (t1 tx n fr).2.2.2 ≤ n := by
  have h := c1_adv tx (fun i => lN (rN gC (wdL.getD i []))) hf
  rw [(c1_t1 (fun i _ => rfl) hf hb).2.1] at h
  exact h
/-- where token k begins; the end: n -/
def tS (tx : Nat → Int32) (n : Nat) : Nat → Nat
  | 0 => skB tx n false 0
  | k + 1 => if tS tx n k < n then skB tx (n - (t1 tx n (tS tx n k)).2.2.2) false (t1 tx n (tS tx n k)).2.2.2 else n
/-- token k: kind, letters, value, end -/
def tD (tx : Nat → Int32) (n k : Nat) : Int32 × List Int32 × Int32 × Nat := if tS tx n k < n then t1 tx n (tS tx n k) else (0, [], 0, n)
theorem tS_le {tx : Nat → Int32} {n : Nat} (hb : ∀ i, i < n → byR (tx i)) : ∀ k, tS tx n k ≤ n
  | 0 => by
    have := (skB_le tx n false 0).2
    unfold tS
    omega
  | k + 1 => by
    unfold tS
    by_cases h : tS tx n k < n
    · rw [if_pos h]
      have a := t1_adv h hb
      have b := (skB_le tx (n - (t1 tx n (tS tx n k)).2.2.2) false (t1 tx n (tS tx n k)).2.2.2).2
      omega
    · rw [if_neg h]; exact Nat.le_refl n
theorem tS_up {tx : Nat → Int32} {n : Nat} (hb : ∀ i, i < n → byR (tx i)) {k : Nat} (h : tS tx n k < n) : tS tx n k < tS tx n (k + 1) := by
  show _ < (if tS tx n k < n then _ else n)
  rw [if_pos h]
  have a := t1_adv h hb
  have b := (skB_le tx (n - (t1 tx n (tS tx n k)).2.2.2) false (t1 tx n (tS tx n k)).2.2.2).1
  omega
/-- N tokens ahead of the end -/
def tEnd (tx : Nat → Int32) (n N : Nat) : Prop := tS tx n N = n ∧ ∀ k, k < N → tS tx n k < n
theorem tS_next (tx : Nat → Int32) (n k : Nat) : tS tx n (k + 1) = skB tx (n - (tD tx n k).2.2.2) false (tD tx n k).2.2.2 := by
  show (if tS tx n k < n then _ else n) = _
  unfold tD
  by_cases h : tS tx n k < n
  · rw [if_pos h, if_pos h]
  · rw [if_neg h, if_neg h]
    show n = skB tx (n - n) false n
    rw [Nat.sub_self]
    rfl
theorem tD_end {tx : Nat → Int32} {n k : Nat} (hb : ∀ i, i < n → byR (tx i)) : (tD tx n k).2.2.2 ≤ n := by
  unfold tD
  by_cases h : tS tx n k < n
  · rw [if_pos h]; exact (t1_adv h hb).2
  · rw [if_neg h]; exact Nat.le_refl n
/-- the kinds that a token ahead of the end may have -/
theorem t1_kind {tx : Nat → Int32} {n fr : Nat} (hf : fr < n) (hb : ∀ i, i < n → byR (tx i)) : (isLb (tx fr) = true ∧ ((t1 tx n fr).1 = 1 ∨ (t1 tx n fr).1 = 2 ∨ (t1 tx n fr).1 = 3 ∨ ∃ j, j < 16 ∧ (t1 tx n fr).1 = nI (5 + j)) ∧ (¬ (t1 tx n fr).1 = 1 → (∀ b ∈ (t1 tx n fr).2.1, isW b) ∧ (t1 tx n fr).2.1.length ≤ 10)) ∨ (¬ isLb (tx fr) = true ∧ ((t1 tx n fr).1 = 1 ∨ (t1 tx n fr).1 = 4 ∨ (t1 tx n fr).1 = 200 ∨ (t1 tx n fr).1 = 201 ∨ (t1 tx n fr).1 ∈ sgM)) := by
  unfold t1
  by_cases h1 : isLb (tx fr) = true
  · refine Or.inl ⟨h1, ?_⟩
    rw [if_pos h1]
    by_cases g : (scL tx (n - fr) [] fr).2 - fr ≤ 10
    · rw [if_pos g]
      have hl := scL_w (tx := tx) (n - fr) [] fr (fun q hq => hb q (by omega)) (fun b hb => nomatch hb)
      refine ⟨?_, fun _ => ⟨hl, scL_10 g⟩⟩
      by_cases u : 90 < tx fr
      · simp only [if_pos u]
        rcases wdX_3 (scL tx (n - fr) [] fr).1 16 0 (by omega) with q | ⟨j, _, b, q⟩
        · exact Or.inr (Or.inr (Or.inl q))
        · exact Or.inr (Or.inr (Or.inr ⟨j, by omega, q⟩))
      · rw [if_neg u]
        exact Or.inr (Or.inl rfl)
    · rw [if_neg g]
      exact ⟨Or.inl rfl, fun z => absurd rfl z⟩
  · refine Or.inr ⟨h1, ?_⟩
    rw [if_neg h1]
    by_cases h2 : isDb (tx fr) = true
    · rw [if_pos h2]
      by_cases g : (scD tx (n - fr) 0 fr).2 - fr ≤ 9
      · rw [if_pos g]; exact Or.inr (Or.inl rfl)
      · rw [if_neg g]; exact Or.inl rfl
    · rw [if_neg h2]
      rcases same_sign hb hf with ⟨a1, a2, e⟩ | ⟨a, ⟨m, e⟩ | ⟨m, e⟩⟩
      · rw [e]
        by_cases u : (tx fr &&& 255) = 61
        · rw [if_pos u, if_neg (show ¬ ((200 : Int32), fr + 2).1 = 0 from fun q => absurd (show (200 : Int32) = 0 from q) (by decide))]; exact Or.inr (Or.inr (Or.inl rfl))
        · rw [if_neg u, if_neg (show ¬ ((201 : Int32), fr + 2).1 = 0 from fun q => absurd (show (201 : Int32) = 0 from q) (by decide))]; exact Or.inr (Or.inr (Or.inr (Or.inl rfl)))
      · rw [e, if_neg (show ¬ ((tx fr &&& 255), fr + 1).1 = 0 from (sg_ok m).2.2.2)]
        exact Or.inr (Or.inr (Or.inr (Or.inr m)))
      · rw [e, if_pos (show ((0 : Int32), n).1 = 0 from rfl)]; exact Or.inl rfl
theorem t1_n0 {tx : Nat → Int32} {n fr : Nat} (hf : fr < n) (hb : ∀ i, i < n → byR (tx i)) : ¬ (t1 tx n fr).1 = 0 := by
  intro e
  rcases t1_kind hf hb with ⟨_, h, _⟩ | ⟨_, h⟩
  · rw [e] at h
    rcases h with h | h | h | ⟨j, hj, h⟩
    · exact absurd h (by decide)
    · exact absurd h (by decide)
    · exact absurd h (by decide)
    · exact nI_ne0 (n := 5 + j) (by omega) (by omega) h.symm
  · rw [e] at h
    exact absurd h (by decide)
end
section
/-! ===== both sides hold the same tokens ===== -/
section MJ43
variable {a b : Nat → Int32} {n : Nat}
theorem cg_skB (h : ∀ i, i < n → a i = b i) : ∀ (k : Nat) (f : Bool) (i : Nat), i + k ≤ n → skB a k f i = skB b k f i
  | 0, _, _, _ => rfl
  | k + 1, f, i, hi => by
    unfold skB
    rw [h i (by omega), cg_skB h k false (i + 1) (by omega), cg_skB h k true (i + 1) (by omega), cg_skB h k f (i + 1) (by omega)]
theorem cg_scL (h : ∀ i, i < n → a i = b i) : ∀ (k : Nat) (l : List Int32) (i : Nat), i + k ≤ n → scL a k l i = scL b k l i
  | 0, _, _, _ => rfl
  | k + 1, l, i, hi => by
    unfold scL
    rw [h i (by omega), cg_scL h k _ (i + 1) (by omega)]
theorem cg_scD (h : ∀ i, i < n → a i = b i) : ∀ (k : Nat) (v : Int64) (i : Nat), i + k ≤ n → scD a k v i = scD b k v i
  | 0, _, _, _ => rfl
  | k + 1, v, i, hi => by
    unfold scD
    rw [h i (by omega), cg_scD h k _ (i + 1) (by omega)]
theorem cg_sgT (h : ∀ i, i < n → a i = b i) {fr : Nat} (hf : fr < n) : sgT a n fr = sgT b n fr := by
  unfold sgT
  rw [h fr hf]
  by_cases g : fr + 1 < n
  · rw [h (fr + 1) g]
  · rw [if_neg (show ¬ (fr + 1 < n ∧ a (fr + 1) = 61 ∧ (b fr = 61 ∨ b fr = 33)) from fun q => g q.1), if_neg (show ¬ (fr + 1 < n ∧ b (fr + 1) = 61 ∧ (b fr = 61 ∨ b fr = 33)) from fun q => g q.1)]
theorem cg_t1 (h : ∀ i, i < n → a i = b i) {fr : Nat} (hf : fr < n) : t1 a n fr = t1 b n fr := by
  unfold t1
  rw [h fr hf, cg_scL h (n - fr) [] fr (by omega), cg_scD h (n - fr) 0 fr (by omega), cg_sgT h hf]
theorem cg_tS (h : ∀ i, i < n → a i = b i) (hb : ∀ i, i < n → byR (a i)) : ∀ k, tS a n k = tS b n k
  | 0 => cg_skB h n false 0 (by omega)
  | k + 1 => by
    unfold tS
    rw [← cg_tS h hb k]
    by_cases g : tS a n k < n
    · rw [if_pos g, if_pos g, ← cg_t1 h g]
      have e := t1_adv g hb
      exact cg_skB h _ false _ (by omega)
    · rw [if_neg g, if_neg g]
theorem cg_tD (h : ∀ i, i < n → a i = b i) (hb : ∀ i, i < n → byR (a i)) (k : Nat) : tD a n k = tD b n k := by
  unfold tD
  rw [← cg_tS h hb k]
  by_cases g : tS a n k < n
  · rw [if_pos g, if_pos g, cg_t1 h g]
  · rw [if_neg g, if_neg g]
end MJ43
/-- the class's rows hold the N tokens of the text and the end -/
def TKC (tx : Nat → Int32) (n N : Nat) (s : mjSt3) : Prop := s.1 58 5 = nI (N + 1) ∧ ∀ k, k ≤ N → s.1 60 k = (tD tx n k).1 ∧ s.1 61 k = nI (tS tx n k) ∧ ((tD tx n k).1 = 2 ∨ (tD tx n k).1 = 3 → s.2.1 62 k = lN (rN gC (tD tx n k).2.1)) ∧ ((tD tx n k).1 = 4 → (s.2.1 62 k).toInt32 = (tD tx n k).2.2.1)
theorem kd_lb {tx : Nat → Int32} {n fr : Nat} (hf : fr < n) (hb : ∀ i, i < n → byR (tx i)) (h : (t1 tx n fr).1 = 2 ∨ (t1 tx n fr).1 = 3) : isLb (tx fr) = true := by
  rcases t1_kind hf hb with ⟨g, _, _⟩ | ⟨_, g⟩
  · exact g
  · exfalso
    rcases h with h | h
    · rw [h] at g
      exact absurd g (by decide)
    · rw [h] at g
      exact absurd g (by decide)
theorem holds_tok {tx : Nat → Int32} {w : Nat → Int64} {n : Nat} {s : mjSt3} (hw : ∀ i, i < 16 → w i = lN (rN gC (wdL.getD i []))) (hb : ∀ i, i < n → byR (tx i)) :
    ∀ (k i m : Nat), n ≤ tS tx n i + k → holdsT s m (toks tx w n k (tS tx n i) ++ [(0, n, 0)]) → (∀ j, j < (toks tx w n k (tS tx n i)).length → tS tx n (i + j) < n) ∧ tS tx n (i + (toks tx w n k (tS tx n i)).length) = n ∧
      ∀ j, j ≤ (toks tx w n k (tS tx n i)).length → s.1 60 (m + j) = (tD tx n (i + j)).1 ∧ s.1 61 (m + j) = nI (tS tx n (i + j)) ∧ ((tD tx n (i + j)).1 = 2 ∨ (tD tx n (i + j)).1 = 3 → s.2.1 62 (m + j) = lN (rN gC (tD tx n (i + j)).2.1)) ∧ ((tD tx n (i + j)).1 = 4 → (s.2.1 62 (m + j)).toInt32 = (tD tx n (i + j)).2.2.1) := by
  intro k
  have fin : ∀ (i m : Nat), ¬ tS tx n i < n → s.1 60 m = 0 → s.1 61 m = nI n → s.1 60 m = (tD tx n i).1 ∧ s.1 61 m = nI (tS tx n i) ∧ ((tD tx n i).1 = 2 ∨ (tD tx n i).1 = 3 → s.2.1 62 m = lN (rN gC (tD tx n i).2.1)) ∧ ((tD tx n i).1 = 4 → (s.2.1 62 m).toInt32 = (tD tx n i).2.2.1) := by
    intro i m h h0 h1
    have e : tS tx n i = n := by have := tS_le hb i; omega
    unfold tD
    rw [if_neg h, e]
    exact ⟨h0, h1, fun z => absurd (show (0 : Int32) = 2 ∨ (0 : Int32) = 3 from z) (by decide), fun z => absurd (show (0 : Int32) = 4 from z) (by decide)⟩
  induction k with
  | zero =>
    intro i m hk hh
    have e : tS tx n i = n := by have := tS_le hb i; omega
    refine ⟨fun j hj => absurd hj (Nat.not_lt_zero j), e, fun j hj => ?_⟩
    have hj0 : j = 0 := Nat.le_zero.mp hj
    subst hj0
    exact fin i m (by omega) hh.1.1 hh.1.2.1
  | succ k ih =>
    intro i m hk hh
    unfold toks at hh ⊢
    by_cases h : tS tx n i < n
    · rw [if_pos h] at hh ⊢
      have e := c1_t1 (w := w) hw h hb
      have es : skB tx (n - (c1 tx w n (tS tx n i)).2.2) false (c1 tx w n (tS tx n i)).2.2 = tS tx n (i + 1) := by
        rw [e.2.1]
        show _ = (if tS tx n i < n then _ else n)
        rw [if_pos h]
      rw [es] at hh ⊢
      have up := tS_up hb h
      obtain ⟨h1, h2, h3⟩ := ih (i + 1) (m + 1) (by omega) hh.2
      have e1 : ∀ j, i + 1 + j = i + (j + 1) := fun j => by omega
      have e2 : ∀ j, m + 1 + j = m + (j + 1) := fun j => by omega
      simp only [e1, e2] at h1 h2 h3
      refine ⟨fun j hj => ?_, h2, fun j hj => ?_⟩
      · cases j with
        | zero => exact h
        | succ j => exact h1 j (by simpa using hj)
      · cases j with
        | zero =>
          have td : tD tx n i = t1 tx n (tS tx n i) := if_pos h
          simp only [Nat.add_zero]
          rw [td]
          obtain ⟨⟨a1, a2, a3, a4⟩, _⟩ := hh
          refine ⟨a1.trans e.1, a2, fun z => ?_, fun z => ?_⟩
          · rw [a3]
            refine e.2.2.1 (kd_lb h hb z) (fun q => ?_)
            rw [q] at z
            exact absurd z (by decide)
          · rw [a3]
            exact e.2.2.2 z
        | succ j => exact h3 j (by simpa using hj)
    · rw [if_neg h] at hh ⊢
      have e : tS tx n i = n := by have := tS_le hb i; omega
      refine ⟨fun j hj => absurd hj (Nat.not_lt_zero j), e, fun j hj => ?_⟩
      have hj0 : j = 0 := Nat.le_zero.mp hj
      subst hj0
      exact fin i m h hh.1.1 hh.1.2.1
theorem cut_TKC {s s' : mjSt3} {n : Nat} (hw : ∀ i, i < 16 → s.2.1 59 i = lN (rN gC (wdL.getD i []))) (hb : ∀ i, i < n → byR (s.1 1 i)) (h : cutS s s' n) : ∃ N, N ≤ n ∧ tEnd (s.1 1) n N ∧ TKC (s.1 1) n N s' := by
  obtain ⟨h1, _, _, _, h5, _, _, _⟩ := h
  have k := holds_tok (s := s') hw hb n 0 0 (by omega) h5
  simp only [Nat.zero_add] at k
  refine ⟨(cToks s n).length, ?_, ⟨k.2.1, k.1⟩, h1, k.2.2⟩
  have := toks_len (s.1 1) (s.2.1 59) n n (skB (s.1 1) n false 0)
  have q := (skB_le (s.1 1) n false 0).2
  unfold cToks
  omega
/-- the reference is at token k -/
def MT (tx : Nat → Int32) (n k : Nat) (s : mjSt3) : Prop := s.1 97 3 = srt (tD tx n k).1 ∧ s.1 97 4 = nI (tS tx n k) ∧ (¬ (tD tx n k).1 = 1 → s.1 97 5 = nI (tD tx n k).2.2.2 ∧ (srt (tD tx n k).1 = 3 ∨ srt (tD tx n k).1 = 4 ∨ srt (tD tx n k).1 = 5 → s.1 97 6 = nbr (tD tx n k).1 (tD tx n k).2.2.1) ∧ (srt (tD tx n k).1 = 1 ∨ srt (tD tx n k).1 = 2 → s.2.1 97 7 = lN (rN gM (tD tx n k).2.1)))
/-- what the reference's tape and words are -/
def MB (tx : Nat → Int32) (n : Nat) (s : mjSt3) : Prop := n ≤ 3000 ∧ s.1 97 2 = nI n ∧ s.1 98 = tx ∧ (∀ i, i < n → byR (tx i)) ∧ ∀ i, i < 16 → s.2.1 99 (i + 1) = lN (rN gM (wdL.getD i []))
theorem MB.off {tx : Nat → Int32} {n : Nat} {s s' : mjSt3} (h : MB tx n s) (o : offN s s') : MB tx n s' := by
  obtain ⟨a, b, c, d, e⟩ := h
  refine ⟨a, ?_, ?_, d, fun i hi => ?_⟩
  · rw [o.2.1 2 (by decide) (by decide) (by decide) (by decide), b]
  · rw [o.1 98 (by decide), c]
  · rw [o.2.2.1 99 (by decide)]; exact e i hi
theorem mt_of {tx : Nat → Int32} {n k : Nat} {s s' : mjSt3} {old : Int32} (hm : MB tx n s) (h : nxS s s' (tS tx n k) (m1 tx (s.2.1 99) n (tS tx n k) old)) : MT tx n k s' := by
  obtain ⟨_, a4, a3, a6, a5, a7⟩ := h
  obtain ⟨_, _, _, hb, hw⟩ := hm
  unfold MT tD
  by_cases g : tS tx n k < n
  · rw [if_pos g]
    have e := m1_t1 (kp := s.2.1 99) old hw g hb
    refine ⟨a3.trans e.1, a4, fun z => ⟨?_, fun y => ?_, fun y => ?_⟩⟩
    · rw [a5, (e.2 z).1]
    · rw [a6, (e.2 z).2.1 y]
    · rw [a7 (by rw [e.1]; exact y), (e.2 z).2.2 y]
  · rw [if_neg g]
    have e : m1 tx (s.2.1 99) n (tS tx n k) old = (0, old, 0, n) := by
      unfold m1
      rw [if_neg g]
    rw [e] at a3 a5
    refine ⟨a3, a4, fun _ => ⟨a5, fun y => absurd (show srt 0 = 3 ∨ srt 0 = 4 ∨ srt 0 = 5 from y) (by decide), fun y => absurd (show srt 0 = 1 ∨ srt 0 = 2 from y) (by decide)⟩⟩
/-- next() goes from token k to the next -/
theorem x_mt {d n k : Nat} {tx : Nat → Int32} {s : mjSt3} (hm : MB tx n s) (h : MT tx n k s) (hk : ¬ (tD tx n k).1 = 1) : ∃ s', mjF (d + 3) 262 [.ref 97] (mjW0 s) = some (none, mjW0 s') ∧ MT tx n (k + 1) s' ∧ offN s s' := by
  have hm' := hm
  obtain ⟨hn, he, h98, hb, hw⟩ := hm'
  obtain ⟨s', e, g⟩ := x_next (d := d) (b := (tD tx n k).2.2.2) hn he (h.2.2 hk).1 (tD_end hb) (by rw [h98]; exact hb)
  rw [h98, ← tS_next] at g
  exact ⟨s', e, mt_of hm g, g.1⟩
theorem x_mt0 {d n : Nat} {tx : Nat → Int32} {s : mjSt3} (hm : MB tx n s) (h : s.1 97 5 = 0) : ∃ s', mjF (d + 3) 262 [.ref 97] (mjW0 s) = some (none, mjW0 s') ∧ MT tx n 0 s' ∧ offN s s' := by
  have hm' := hm
  obtain ⟨hn, he, h98, hb, hw⟩ := hm'
  obtain ⟨s', e, g⟩ := x_next (d := d) (b := 0) hn he h (Nat.zero_le n) (by rw [h98]; exact hb)
  rw [h98] at g
  exact ⟨s', e, mt_of hm g, g.1⟩
end
