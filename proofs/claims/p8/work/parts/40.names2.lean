/-! ===== a name's letters; class's key and reference's name out of them ===== -/
/-- the letters and digits from i on, the last first; the end -/
def scL (tx : Nat → Int32) : Nat → List Int32 → Nat → List Int32 × Nat
  | 0, l, i => (l, i)
  | k + 1, l, i => if isLb (tx i) = true ∨ isDb (tx i) = true then scL tx k (tx i :: l) (i + 1) else (l, i)
theorem scL_w {tx : Nat → Int32} : ∀ (k : Nat) (l : List Int32) (i : Nat), (∀ q, q < i + k → byR (tx q)) → (∀ b ∈ l, isW b) → ∀ b ∈ (scL tx k l i).1, isW b
  | 0, l, i, _, h => h
  | k + 1, l, i, hb, h => by
    unfold scL
    by_cases g : isLb (tx i) = true ∨ isDb (tx i) = true
    · rw [if_pos g]
      refine scL_w k _ (i + 1) (fun q hq => hb q (by omega)) ?_
      intro b hm
      rcases List.mem_cons.mp hm with e | e
      · rw [e]; exact ⟨hb i (by omega), g⟩
      · exact h b e
    · rw [if_neg g]; exact h
theorem scL_len {tx : Nat → Int32} : ∀ (k : Nat) (l : List Int32) (i : Nat), (scL tx k l i).1.length + i = l.length + (scL tx k l i).2
  | 0, l, i => rfl
  | k + 1, l, i => by
    unfold scL
    by_cases g : isLb (tx i) = true ∨ isDb (tx i) = true
    · rw [if_pos g]
      have r := scL_len (tx := tx) k (tx i :: l) (i + 1)
      simp only [List.length_cons] at r
      omega
    · rw [if_neg g]
theorem scN_L {tx : Nat → Int32} : ∀ (k : Nat) (l : List Int32) (i : Nat), (∀ q, q < i + k → byR (tx q)) → scN tx k (lN (rN gC l)) i = (lN (rN gC (scL tx k l i).1), (scL tx k l i).2)
  | 0, l, i, _ => rfl
  | k + 1, l, i, hb => by
    have step : (isLb (tx i) = true ∨ isDb (tx i) = true) → lN (rN gC l) * 64 + (cdC (tx i)).toInt64 = lN (rN gC (tx i :: l)) := by
      intro g
      have c := cd_of (b := tx i) ⟨hb i (by omega), g⟩
      rw [c.2.2.1, nI_l (by omega), show (64 : Int64) = lN 64 from rfl, lN_mul, lN_add]
      rfl
    unfold scN scL
    by_cases g1 : isLb (tx i) = true
    · rw [if_pos g1, if_pos (Or.inl g1), step (Or.inl g1)]
      exact scN_L k _ (i + 1) (fun q hq => hb q (by omega))
    · rw [if_neg g1]
      by_cases g2 : isDb (tx i) = true
      · rw [if_pos g2, if_pos (Or.inr g2), step (Or.inr g2)]
        exact scN_L k _ (i + 1) (fun q hq => hb q (by omega))
      · rw [if_neg g2, if_neg (fun e => e.elim g1 g2)]
theorem scW_L {tx : Nat → Int32} {p : Nat} : ∀ (k : Nat) (l : List Int32) (i : Nat), (∀ q, q < i + k → byR (tx q)) → p ≤ i → (scL tx k l i).2 - p ≤ 10 → scW tx p k (lN (rN gM l)) i = (lN (rN gM (scL tx k l i).1), (scL tx k l i).2)
  | 0, l, i, _, _, _ => rfl
  | k + 1, l, i, hb, hp, h => by
    unfold scL at h
    unfold scW scL
    by_cases g : isLb (tx i) = true ∨ isDb (tx i) = true
    · rw [if_pos g] at h
      rw [if_pos g, if_pos g]
      have r := scL_len (tx := tx) k (tx i :: l) (i + 1)
      have r2 : i + 1 ≤ (scL tx k (tx i :: l) (i + 1)).2 := by
        have n := scN_L (tx := tx) k (tx i :: l) (i + 1) (fun q hq => hb q (by omega))
        have s := (scN_le tx k (lN (rN gC (tx i :: l))) (i + 1)).1
        rw [n] at s
        exact s
      have c := cd_of (b := tx i) ⟨hb i (by omega), g⟩
      have e : 64 * lN (rN gM l) + (cdM (tx i &&& 255)).toInt64 = lN (rN gM (tx i :: l)) := by
        rw [c.2.2.2.1, nI_l (by omega), show (64 : Int64) = lN 64 from rfl, lN_mul, lN_add, Nat.mul_comm]
        rfl
      rw [if_neg (show ¬ 10 ≤ i - p by omega), e]
      exact scW_L k _ (i + 1) (fun q hq => hb q (by omega)) (by omega) h
    · rw [if_neg g, if_neg g]
/-- names of at most ten signs: the class's keys are the same just where the reference's names are -/
theorem same_key {l m : List Int32} (hl : ∀ b ∈ l, isW b) (hm : ∀ b ∈ m, isW b) (l1 : l.length ≤ 10) (l2 : m.length ≤ 10) : lN (rN gC l) = lN (rN gC m) ↔ lN (rN gM l) = lN (rN gM m) := by
  have big : ∀ (g : Int32 → Nat), (∀ b, isW b → 1 ≤ g b ∧ g b < 64) → ∀ x : List Int32, (∀ b ∈ x, isW b) → x.length ≤ 10 → rN g x < 2 ^ 63 := by
    intro g hg x hx hl
    have a := rN_lt (P := isW) hg x hx
    have b : 64 ^ x.length ≤ 64 ^ 10 := Nat.pow_le_pow_right (by decide) hl
    have c : (64 : Nat) ^ 10 < 2 ^ 63 := by decide
    omega
  have inj : ∀ {a b : Nat}, a < 2 ^ 63 → b < 2 ^ 63 → lN a = lN b → a = b := by
    intro a b ha hb e
    have k : (lN a).toInt = (lN b).toInt := by rw [e]
    rw [pk_lT ha, pk_lT hb] at k
    omega
  have s := same_name hl hm
  constructor
  · intro e
    rw [s.mp (inj (big gC (fun b hb => (cd_of hb).1) l hl l1) (big gC (fun b hb => (cd_of hb).1) m hm l2) e)]
  · intro e
    rw [s.mpr (inj (big gM (fun b hb => (cd_of hb).2.1) l hl l1) (big gM (fun b hb => (cd_of hb).2.1) m hm l2) e)]
