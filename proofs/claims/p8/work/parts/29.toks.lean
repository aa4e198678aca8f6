/-! ===== all tokens cut ===== -/
theorem scN_adv (tx : Nat → Int32) {k : Nat} {key : Int64} {i : Nat} (h : isLb (tx i) = true) : i < (scN tx (k + 1) key i).2 := by
  unfold scN
  rw [if_pos h]
  exact (scN_le tx k _ (i + 1)).1
theorem scD_adv (tx : Nat → Int32) {k : Nat} {v : Int64} {i : Nat} (h : isDb (tx i) = true) : i < (scD tx (k + 1) v i).2 := by
  unfold scD
  rw [if_pos h]
  exact (scD_le tx k _ (i + 1)).1
theorem sgT_adv (tx : Nat → Int32) {n fr : Nat} (hf : fr < n) : fr < (sgT tx n fr).2 := by
  unfold sgT
  by_cases h : fr + 1 < n ∧ tx (fr + 1) = 61 ∧ (tx fr = 61 ∨ tx fr = 33)
  · rw [if_pos h]; show fr < fr + 2; omega
  · rw [if_neg h]
    by_cases g : tx fr ≤ 0 ∨ ¬ 0 ≤ ixF (tx fr) 16 0
    · rw [if_pos g]; exact hf
    · rw [if_neg g]; exact Nat.lt_succ_self fr
theorem c1_adv (tx : Nat → Int32) (w : Nat → Int64) {n fr : Nat} (hf : fr < n) : fr < (c1 tx w n fr).2.2 ∧ (c1 tx w n fr).2.2 ≤ n := by
  obtain ⟨k, hk⟩ : ∃ k, n - fr = k + 1 := ⟨n - fr - 1, by omega⟩
  unfold c1
  by_cases h1 : isLb (tx fr) = true
  · rw [if_pos h1]
    by_cases g : (scN tx (n - fr) 0 fr).2 - fr ≤ 10
    · rw [if_pos g]
      refine ⟨?_, ?_⟩
      · show fr < (scN tx (n - fr) 0 fr).2
        rw [hk]; exact scN_adv tx h1
      · have := (scN_le tx (n - fr) 0 fr).2
        show (scN tx (n - fr) 0 fr).2 ≤ n
        omega
    · rw [if_neg g]; exact ⟨hf, Nat.le_refl n⟩
  · rw [if_neg h1]
    by_cases h2 : isDb (tx fr) = true
    · rw [if_pos h2]
      by_cases g : (scD tx (n - fr) 0 fr).2 - fr ≤ 9
      · rw [if_pos g]
        refine ⟨?_, ?_⟩
        · show fr < (scD tx (n - fr) 0 fr).2
          rw [hk]; exact scD_adv tx h2
        · have := (scD_le tx (n - fr) 0 fr).2
          show (scD tx (n - fr) 0 fr).2 ≤ n
          omega
      · rw [if_neg g]; exact ⟨hf, Nat.le_refl n⟩
    · rw [if_neg h2]
      by_cases g : (sgT tx n fr).1 = 0
      · rw [if_pos g]; exact ⟨hf, Nat.le_refl n⟩
      · rw [if_neg g]; exact ⟨sgT_adv tx hf, sgT_le tx hf⟩
/-- the tokens from fr on (fr is behind blanks): kind, place, key; k: at most so many -/
def toks (tx : Nat → Int32) (w : Nat → Int64) (n : Nat) : Nat → Nat → List (Int32 × Nat × Int64)
  | 0, _ => []
  | k + 1, fr => if fr < n then ((c1 tx w n fr).1, fr, (c1 tx w n fr).2.1) :: toks tx w n k (skB tx (n - (c1 tx w n fr).2.2) false (c1 tx w n fr).2.2) else []
theorem toks_len (tx : Nat → Int32) (w : Nat → Int64) (n : Nat) : ∀ (k fr : Nat), fr + (toks tx w n k fr).length ≤ max fr n
  | 0, fr => by show fr + 0 ≤ _; omega
  | k + 1, fr => by
    unfold toks
    by_cases h : fr < n
    · rw [if_pos h]
      have a := c1_adv tx w h
      have b := skB_le tx (n - (c1 tx w n fr).2.2) false (c1 tx w n fr).2.2
      have r := toks_len tx w n k (skB tx (n - (c1 tx w n fr).2.2) false (c1 tx w n fr).2.2)
      simp only [List.length_cons]
      omega
    · rw [if_neg h]
      simp only [List.length_nil]
      omega
/-- the rows hold these tokens from m on -/
def holdsT (s : mjSt3) : Nat → List (Int32 × Nat × Int64) → Prop
  | _, [] => True
  | m, t :: ts => (s.1 60 m = t.1 ∧ s.1 61 m = nI t.2.1 ∧ s.2.1 62 m = t.2.2 ∧ s.1 63 m = 0) ∧ holdsT s (m + 1) ts
/-- nothing but tokens from m on, and how many there are, has changed -/
def offK (s s' : mjSt3) (m : Nat) : Prop := (∀ q, ¬ q = 58 → ¬ q = 60 → ¬ q = 61 → ¬ q = 63 → s'.1 q = s.1 q) ∧ (∀ j, ¬ j = 5 → s'.1 58 j = s.1 58 j) ∧ (∀ q, ¬ q = 62 → s'.2.1 q = s.2.1 q) ∧ s'.2.2 = s.2.2 ∧ (∀ i, i < m → s'.1 60 i = s.1 60 i ∧ s'.1 61 i = s.1 61 i ∧ s'.2.1 62 i = s.2.1 62 i ∧ s'.1 63 i = s.1 63 i)
theorem offK.rf (s : mjSt3) (m : Nat) : offK s s m := ⟨fun _ _ _ _ _ => rfl, fun _ _ => rfl, fun _ _ => rfl, rfl, fun _ _ => ⟨rfl, rfl, rfl, rfl⟩⟩
theorem offK.tr {s s' s'' : mjSt3} {m m' : Nat} (h : offK s s' m) (g : offK s' s'' m') (hm : m ≤ m') : offK s s'' m := by
  obtain ⟨a1, a2, a3, a4, a5⟩ := h
  obtain ⟨b1, b2, b3, b4, b5⟩ := g
  refine ⟨fun q x0 x1 x2 x3 => (b1 q x0 x1 x2 x3).trans (a1 q x0 x1 x2 x3), fun j hj => (b2 j hj).trans (a2 j hj), fun q hq => (b3 q hq).trans (a3 q hq), b4.trans a4, fun i hi => ?_⟩
  obtain ⟨c1', c2, c3, c4⟩ := b5 i (by omega)
  obtain ⟨d1, d2, d3, d4⟩ := a5 i hi
  exact ⟨c1'.trans d1, c2.trans d2, c3.trans d3, c4.trans d4⟩
theorem tkPut_60 (s : mjSt3) (n : Nat) (kd pl : Int32) (key : Int64) : (tkPut s n kd pl key).1 60 = upd (s.1 60) n kd := by
  simp only [tkPut, uI_ne, uI_same, uL_i, Nat.reduceEqDiff, not_false_eq_true]
theorem tkPut_61 (s : mjSt3) (n : Nat) (kd pl : Int32) (key : Int64) : (tkPut s n kd pl key).1 61 = upd (s.1 61) n pl := by
  simp only [tkPut, uI_ne, uI_same, uL_i, Nat.reduceEqDiff, not_false_eq_true]
theorem tkPut_63 (s : mjSt3) (n : Nat) (kd pl : Int32) (key : Int64) : (tkPut s n kd pl key).1 63 = upd (s.1 63) n 0 := by
  simp only [tkPut, uI_ne, uI_same, uL_i, Nat.reduceEqDiff, not_false_eq_true]
theorem tkPut_58 (s : mjSt3) (n : Nat) (kd pl : Int32) (key : Int64) : (tkPut s n kd pl key).1 58 = upd (s.1 58) 5 (nI (n + 1)) := by
  simp only [tkPut, uI_same]
theorem tkPut_62 (s : mjSt3) (n : Nat) (kd pl : Int32) (key : Int64) : (tkPut s n kd pl key).2.1 62 = vp_updL (s.2.1 62) n key := by
  simp only [tkPut, uI_l, uL_same]
theorem tkPut_off (s : mjSt3) (n : Nat) (kd pl : Int32) (key : Int64) : offK s (tkPut s n kd pl key) n := by
  refine ⟨fun q x0 x1 x2 x3 => ?_, fun j hj => ?_, fun q hq => ?_, rfl, fun i hi => ?_⟩
  · simp only [tkPut, uI_ne _ _ _ _ x0, uI_ne _ _ _ _ x1, uI_ne _ _ _ _ x2, uI_ne _ _ _ _ x3, uL_i]
  · rw [tkPut_58]; exact if_neg hj
  · simp only [tkPut, uI_l, uL_ne _ _ _ _ hq]
  · rw [tkPut_60, tkPut_61, tkPut_62, tkPut_63]
    have e : ¬ i = n := by omega
    exact ⟨if_neg e, if_neg e, if_neg e, if_neg e⟩
theorem tkPut_at (s : mjSt3) (n : Nat) (kd pl : Int32) (key : Int64) : (tkPut s n kd pl key).1 60 n = kd ∧ (tkPut s n kd pl key).1 61 n = pl ∧ (tkPut s n kd pl key).2.1 62 n = key ∧ (tkPut s n kd pl key).1 63 n = 0 := by
  rw [tkPut_60, tkPut_61, tkPut_62, tkPut_63]
  exact ⟨if_pos rfl, if_pos rfl, if_pos rfl, if_pos rfl⟩
theorem tkPut_n (s : mjSt3) (n : Nat) (kd pl : Int32) (key : Int64) : (tkPut s n kd pl key).1 58 5 = nI (n + 1) := by
  rw [tkPut_58]
  exact if_pos rfl
theorem lq_154 {d n : Nat} (hn : n ≤ 3000) : ∀ (k fr j q m : Nat) (s : mjSt3), n ≤ fr + k → j ≤ fr → fr ≤ n → m ≤ fr → s.1 58 5 = nI m → k < q → (∀ i, i < n → s.1 1 i ≤ 127) →
    ∃ s', L_154_30 (mjF (d + 6)) q 58 1 (nI n) (nI fr) (nI j) (mjW0 s) = some (none, mjW0 s') ∧ offK s s' m ∧ holdsT s' m (toks (s.1 1) (s.2.1 59) n k fr ++ [(0, n, 0)]) ∧ s'.1 58 5 = nI (m + (toks (s.1 1) (s.2.1 59) n k fr).length + 1) := by
  intro k
  induction k with
  | zero =>
    intro fr j q m s hk hj hf hm hc hq hb
    obtain ⟨q, rfl⟩ : ∃ x, q = x + 1 := ⟨q - 1, by omega⟩
    have e : fr = n := by omega
    subst e
    refine ⟨tkPut s m 0 (nI fr) 0, ?_, tkPut_off s m 0 (nI fr) 0, ⟨tkPut_at s m 0 (nI fr) 0, True.intro⟩, tkPut_n s m 0 (nI fr) 0⟩
    show b_154_30 (mjF (d + 6)) (L_154_30 (mjF (d + 6)) q) 58 1 (nI fr) (nI fr) (nI j) (mjW0 s) = _
    unfold b_154_30 b_154_60
    rw [xV_58, x_put hc (by omega), bN_s, if_pos (nI_le (Nat.le_refl fr) (by omega)), ite_self]
  | succ k ih =>
    intro fr j q m s hk hj hf hm hc hq hb
    obtain ⟨q, rfl⟩ : ∃ x, q = x + 1 := ⟨q - 1, by omega⟩
    by_cases h : fr < n
    · have a := c1_adv (s.1 1) (s.2.1 59) h
      have b := skB_le (s.1 1) (n - (c1 (s.1 1) (s.2.1 59) n fr).2.2) false (c1 (s.1 1) (s.2.1 59) n fr).2.2
      have o1 := tkPut_off s m (c1 (s.1 1) (s.2.1 59) n fr).1 (nI fr) (c1 (s.1 1) (s.2.1 59) n fr).2.1
      have t1 : (tkPut s m (c1 (s.1 1) (s.2.1 59) n fr).1 (nI fr) (c1 (s.1 1) (s.2.1 59) n fr).2.1).1 1 = s.1 1 := o1.1 1 (by decide) (by decide) (by decide) (by decide)
      have w1 : (tkPut s m (c1 (s.1 1) (s.2.1 59) n fr).1 (nI fr) (c1 (s.1 1) (s.2.1 59) n fr).2.1).2.1 59 = s.2.1 59 := o1.2.2.1 59 (by decide)
      obtain ⟨s', e1, e2, e3, e4⟩ := ih (skB (s.1 1) (n - (c1 (s.1 1) (s.2.1 59) n fr).2.2) false (c1 (s.1 1) (s.2.1 59) n fr).2.2) (j + 1) q (m + 1) (tkPut s m (c1 (s.1 1) (s.2.1 59) n fr).1 (nI fr) (c1 (s.1 1) (s.2.1 59) n fr).2.1) (by omega) (by omega) (by omega) (by omega) (tkPut_n s m _ _ _) (by omega) (by rw [t1]; exact hb)
      rw [t1, w1] at e3 e4
      have at1 := tkPut_at s m (c1 (s.1 1) (s.2.1 59) n fr).1 (nI fr) (c1 (s.1 1) (s.2.1 59) n fr).2.1
      have u := e2.2.2.2.2 m (by omega)
      refine ⟨s', ?_, o1.tr e2 (by omega), ?_, ?_⟩
      · show b_154_30 (mjF (d + 6)) (L_154_30 (mjF (d + 6)) q) 58 1 (nI n) (nI fr) (nI j) (mjW0 s) = _
        unfold b_154_30
        rw [if_neg (nI_ge (by omega) (by omega)), if_neg (nI_ge h (by omega)), xV_58, x_one hn h hc (by omega) (hb fr h), bI_s, x_blanks (k := n - (c1 (s.1 1) (s.2.1 59) n fr).2.2) hn (by omega), bI_s, t1, nI_1]
        exact e1
      · unfold toks
        rw [if_pos h]
        exact ⟨⟨u.1.trans at1.1, u.2.1.trans at1.2.1, u.2.2.1.trans at1.2.2.1, u.2.2.2.trans at1.2.2.2⟩, e3⟩
      · unfold toks
        rw [if_pos h, e4, List.length_cons]
        congr 1
        omega
    · have e : fr = n := by omega
      subst e
      refine ⟨tkPut s m 0 (nI fr) 0, ?_, tkPut_off s m 0 (nI fr) 0, ?_, ?_⟩
      · show b_154_30 (mjF (d + 6)) (L_154_30 (mjF (d + 6)) q) 58 1 (nI fr) (nI fr) (nI j) (mjW0 s) = _
        unfold b_154_30 b_154_60
        rw [xV_58, x_put hc (by omega), bN_s, if_pos (nI_le (Nat.le_refl fr) (by omega)), ite_self]
      · unfold toks
        rw [if_neg h]
        exact ⟨tkPut_at s m 0 (nI fr) 0, True.intro⟩
      · unfold toks
        rw [if_neg h]
        exact tkPut_n s m 0 (nI fr) 0
