/-! ===== class and reference cut the same: signs, numbers ===== -/
theorem by_sgn : (List.range 256).all (fun j => decide ((Int32.ofInt ((j : Int) - 128) ≤ 0 ∨ ¬ 0 ≤ ixF (Int32.ofInt ((j : Int) - 128)) 16 0) ↔ ¬ (Int32.ofInt ((j : Int) - 128) &&& 255) ∈ sgM) && (decide (Int32.ofInt ((j : Int) - 128) ≤ 0) || decide (Int32.ofInt ((j : Int) - 128) &&& 255 = Int32.ofInt ((j : Int) - 128)))) = true := by decide +kernel
theorem by_sg {b : Int32} (h : byR b) : ((b ≤ 0 ∨ ¬ 0 ≤ ixF b 16 0) ↔ ¬ (b &&& 255) ∈ sgM) ∧ (b ≤ 0 ∨ b &&& 255 = b) := by
  obtain ⟨j, hj, rfl⟩ := by_of h
  have k := List.all_eq_true.mp by_sgn j (List.mem_range.mpr hj)
  simp only [Bool.and_eq_true, Bool.or_eq_true, decide_eq_true_eq] at k
  exact k
theorem lk_61 {tx : Nat → Int32} {n i : Nat} (h : i < n → byR (tx i)) : lk tx n i = 61 ↔ i < n ∧ tx i = 61 := by
  unfold lk
  by_cases g : i < n
  · rw [if_pos g, by_eq (h g) (by decide)]
    exact ⟨fun e => ⟨g, e⟩, fun e => e.2⟩
  · rw [if_neg g]
    exact ⟨fun e => absurd e (by decide), fun e => absurd e.1 g⟩
/-- a sign: class's kind and reference's sort and number -/
theorem same_sign {tx : Nat → Int32} {n p : Nat} (hb : ∀ i, i < n → byR (tx i)) (hp : p < n) :
    (lk tx n (p + 1) = 61 ∧ ((tx p &&& 255) = 61 ∨ (tx p &&& 255) = 33) ∧ sgT tx n p = (if (tx p &&& 255) = 61 then 200 else 201, p + 2)) ∨
    (¬ (lk tx n (p + 1) = 61 ∧ ((tx p &&& 255) = 61 ∨ (tx p &&& 255) = 33)) ∧ (((tx p &&& 255) ∈ sgM ∧ sgT tx n p = (tx p &&& 255, p + 1)) ∨ (¬ (tx p &&& 255) ∈ sgM ∧ sgT tx n p = (0, n)))) := by
  have B := hb p hp
  have a61 : (tx p &&& 255) = 61 ↔ tx p = 61 := by_eq B (by decide)
  have a33 : (tx p &&& 255) = 33 ↔ tx p = 33 := by_eq B (by decide)
  have L := lk_61 (tx := tx) (n := n) (i := p + 1) (fun h => hb _ h)
  have S := by_sg B
  by_cases h : lk tx n (p + 1) = 61 ∧ ((tx p &&& 255) = 61 ∨ (tx p &&& 255) = 33)
  · refine Or.inl ⟨h.1, h.2, ?_⟩
    have c : p + 1 < n ∧ tx (p + 1) = 61 ∧ (tx p = 61 ∨ tx p = 33) := ⟨(L.mp h.1).1, (L.mp h.1).2, h.2.elim (fun e => Or.inl (a61.mp e)) (fun e => Or.inr (a33.mp e))⟩
    unfold sgT
    rw [if_pos c]
    by_cases g : tx p = 61
    · rw [if_pos g, if_pos (a61.mpr g)]
    · rw [if_neg g, if_neg (fun e => g (a61.mp e))]
  · refine Or.inr ⟨h, ?_⟩
    have c : ¬ (p + 1 < n ∧ tx (p + 1) = 61 ∧ (tx p = 61 ∨ tx p = 33)) := fun e => h ⟨L.mpr ⟨e.1, e.2.1⟩, e.2.2.elim (fun e => Or.inl (a61.mpr e)) (fun e => Or.inr (a33.mpr e))⟩
    unfold sgT
    rw [if_neg c]
    by_cases g : (tx p &&& 255) ∈ sgM
    · refine Or.inl ⟨g, ?_⟩
      have g2 : ¬ (tx p ≤ 0 ∨ ¬ 0 ≤ ixF (tx p) 16 0) := fun e => (S.1.mp e) g
      rw [if_neg g2, S.2.resolve_left (fun e => g2 (Or.inl e))]
    · exact Or.inr ⟨g, if_pos (S.1.mpr g)⟩
theorem by_255d : (List.range 256).all (fun j => !isDb (Int32.ofInt ((j : Int) - 128)) || decide (Int32.ofInt ((j : Int) - 128) &&& 255 = Int32.ofInt ((j : Int) - 128))) = true := by decide +kernel
theorem by_dd {b : Int32} (h : byR b) (g : isDb b = true) : b &&& 255 = b := by
  obtain ⟨j, hj, rfl⟩ := by_of h
  have k := List.all_eq_true.mp by_255d j (List.mem_range.mpr hj)
  simp only [Bool.or_eq_true, decide_eq_true_eq, g] at k
  simpa using k
/-- a number of at most nine digits: the reference's int is the class's long -/
theorem same_num {tx : Nat → Int32} {p : Nat} : ∀ (k : Nat) (v : Int32) (w : Int64) (i : Nat), (∀ q, q < i + k → byR (tx q)) → v = w.toInt32 → (scV tx p k v i).2 - p ≤ 9 → p ≤ i → (scV tx p k v i).1 = (scD tx k w i).1.toInt32
  | 0, v, w, i, _, e, _, _ => e
  | k + 1, v, w, i, hb, e, h, hp => by
    unfold scV at h ⊢
    unfold scD
    by_cases g : isDb (tx i) = true
    · rw [if_pos g] at h ⊢
      rw [if_pos g]
      have r := scD_le tx k 0 (i + 1)
      rw [← scV_end tx p k (if 9 ≤ i - p then v else 10 * v + (tx i &&& 255) - 48) 0 (i + 1)] at r
      have h9 : ¬ 9 ≤ i - p := by omega
      rw [if_neg h9] at h ⊢
      refine same_num k _ _ (i + 1) (fun q hq => hb q (by omega)) ?_ h (by omega)
      rw [by_dd (hb i (by omega)) g, e, Int64.toInt32_add, Int64.toInt32_mul, Int32.toInt32_toInt64, Int32.mul_comm, show (10 : Int64).toInt32 = (10 : Int32) from rfl, Int32.sub_eq_add_neg, Int32.sub_eq_add_neg, Int32.add_assoc]
    · rw [if_neg g, if_neg g]
      exact e
