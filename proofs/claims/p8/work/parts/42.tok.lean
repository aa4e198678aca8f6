/-! ===== the reference cuts the same token; the tokens by number ===== -/
theorem by_lbd : (List.range 256).all (fun j => !isLb (Int32.ofInt ((j : Int) - 128)) || (decide (Int32.ofInt ((j : Int) - 128) &&& 255 = Int32.ofInt ((j : Int) - 128)) && !isDb (Int32.ofInt ((j : Int) - 128)))) = true := by decide +kernel
theorem by_lb {b : Int32} (h : byR b) (g : isLb b = true) : (b &&& 255) = b ∧ ¬ isDb b = true := by
  obtain ⟨j, hj, e⟩ := by_of h
  have k := List.all_eq_true.mp by_lbd j (List.mem_range.mpr hj)
  rw [← e, g] at k
  simpa using k
theorem srt_w {j : Nat} (h : j < 16) : srt (nI (5 + j)) = 5 ∧ ¬ nI (5 + j) = 4 ∧ nI (5 + j) ≤ 20 := by
  have k : (List.range 16).all (fun j => decide (srt (nI (5 + j)) = 5 ∧ ¬ nI (5 + j) = 4 ∧ nI (5 + j) ≤ 20)) = true := by decide +kernel
  have := List.all_eq_true.mp k j (List.mem_range.mpr h)
  simpa using this
theorem sg_chk : sgM.all (fun c => decide (srt c = 4 ∧ nbr c 0 = c ∧ ¬ c = 1 ∧ ¬ c = 0)) = true := by decide +kernel
theorem sg_ok {c : Int32} (h : c ∈ sgM) : srt c = 4 ∧ nbr c 0 = c ∧ ¬ c = 1 ∧ ¬ c = 0 := by
  have k := List.all_eq_true.mp sg_chk c h
  simpa using k
/-- a token of the reference is that one -/
def mtR (m : Int32 × Int32 × Int64 × Nat) (t : Int32 × List Int32 × Int32 × Nat) : Prop := m.1 = srt t.1 ∧ (¬ t.1 = 1 → m.2.2.2 = t.2.2.2 ∧ (srt t.1 = 3 ∨ srt t.1 = 4 ∨ srt t.1 = 5 → m.2.1 = nbr t.1 t.2.2.1) ∧ (srt t.1 = 1 ∨ srt t.1 = 2 → m.2.2.1 = lN (rN gM t.2.1)))
theorem mtR_bad {x : Int32} {y : Int64} {z : Nat} {l : List Int32} {v : Int32} {e : Nat} : mtR (6, x, y, z) (1, l, v, e) := ⟨show (6 : Int32) = srt 1 by decide, fun q => absurd rfl q⟩
theorem mtR_name {x : Int32} {z : Nat} {l : List Int32} {v k k' : Int32} (h1 : k' = srt k) (h : k' = 1 ∨ k' = 2) : mtR (k', x, lN (rN gM l), z) (k, l, v, z) := by
  refine ⟨h1, fun _ => ⟨rfl, fun q => ?_, fun _ => rfl⟩⟩
  exfalso
  have q' : srt k = 3 ∨ srt k = 4 ∨ srt k = 5 := q
  rw [← h1] at q'
  rcases h with h | h <;> rw [h] at q' <;> exact absurd q' (by decide)
theorem mtR_num {x : Int32} {z : Nat} {l : List Int32} {v k k' : Int32} {y : Int64} (h1 : k' = srt k) (h : k' = 3 ∨ k' = 4 ∨ k' = 5) (h2 : x = nbr k v) : mtR (k', x, y, z) (k, l, v, z) := by
  refine ⟨h1, fun _ => ⟨rfl, fun _ => h2, fun q => ?_⟩⟩
  exfalso
  have q' : srt k = 1 ∨ srt k = 2 := q
  rw [← h1] at q'
  rcases h with h | h | h <;> rw [h] at q' <;> exact absurd q' (by decide)
theorem m1_t1 {tx : Nat → Int32} {kp : Nat → Int64} {n fr : Nat} (old : Int32) (hw : ∀ i, i < 16 → kp (i + 1) = lN (rN gM (wdL.getD i []))) (hf : fr < n) (hb : ∀ i, i < n → byR (tx i)) : mtR (m1 tx kp n fr old) (t1 tx n fr) := by
  have B := hb fr hf
  unfold m1 t1
  rw [if_pos hf]
  by_cases h1 : isLb (tx fr) = true
  · have x := by_lb B h1
    have e : (scW tx fr (n - fr) 0 fr).2 = (scL tx (n - fr) [] fr).2 := by
      rw [scW_end tx fr (n - fr) 0 0 fr, scN_0 (by omega) hb]
    rw [if_neg x.2, if_pos h1, if_pos h1, x.1, e]
    by_cases g : (scL tx (n - fr) [] fr).2 - fr ≤ 10
    · rw [if_pos g, if_pos g, scW_0 (by omega) hb g]
      have hl := scL_w (tx := tx) (n - fr) [] fr (fun q hq => hb q (by omega)) (fun b hb => nomatch hb)
      have kx := kwF_X hw hl (scL_10 g) 16 0 (2, old) (by omega)
      by_cases u : 90 < tx fr
      · rw [if_pos u, if_pos u, show kwF kp (lN (rN gM (scL tx (n - fr) [] fr).1), (scL tx (n - fr) [] fr).2).1 16 1 (2, old) = _ from kx]
        rcases wdX_3 (scL tx (n - fr) [] fr).1 16 0 (by omega) with q | ⟨j, _, b, q⟩
        · rw [q, if_pos rfl]
          exact mtR_name (k' := 2) (k := 3) (by decide) (by decide)
        · have y := srt_w (j := j) (by omega)
          rw [q, if_neg (nI_n3 (by omega))]
          refine mtR_num (k' := 5) y.1.symm (by decide) ?_
          unfold nbr
          rw [if_neg y.2.1, if_pos y.2.2]
      · rw [if_neg u, if_neg u]
        exact mtR_name (by decide) (by decide)
    · rw [if_neg g, if_neg g]
      exact mtR_bad
  · rw [if_neg h1, if_neg h1]
    by_cases h2 : isDb (tx fr) = true
    · have e := scV_end tx fr (n - fr) 0 0 fr
      rw [if_pos h2, if_pos h2, e]
      by_cases g : (scD tx (n - fr) 0 fr).2 - fr ≤ 9
      · rw [if_pos g, if_pos g]
        have v := same_num (tx := tx) (p := fr) (n - fr) 0 0 fr (fun q hq => hb q (by omega)) (by decide) (by rw [e]; exact g) (Nat.le_refl fr)
        refine mtR_num (by decide) (by decide) ?_
        rw [v]
        rfl
      · rw [if_neg g, if_neg g]
        exact mtR_bad
    · rw [if_neg h2, if_neg h2]
      rcases same_sign hb hf with ⟨a1, a2, e⟩ | ⟨a, ⟨m, e⟩ | ⟨m, e⟩⟩
      · rw [if_pos ⟨a1, a2⟩, e]
        by_cases u : (tx fr &&& 255) = 61
        · rw [if_pos u, if_pos u, if_neg (show ¬ ((200 : Int32), fr + 2).1 = 0 from fun q => absurd (show (200 : Int32) = 0 from q) (by decide))]
          exact mtR_num (k := 200) (v := 0) (by decide) (by decide) (by decide)
        · rw [if_neg u, if_neg u, if_neg (show ¬ ((201 : Int32), fr + 2).1 = 0 from fun q => absurd (show (201 : Int32) = 0 from q) (by decide))]
          exact mtR_num (k := 201) (v := 0) (by decide) (by decide) (by decide)
      · have y := sg_ok m
        rw [if_neg a, e, if_pos m, if_neg (show ¬ ((tx fr &&& 255), fr + 1).1 = 0 from y.2.2.2)]
        exact mtR_num y.1.symm (by decide) y.2.1.symm
      · rw [if_neg a, e, if_neg m, if_pos (show ((0 : Int32), n).1 = 0 from rfl)]
        exact mtR_bad
theorem t1_adv {tx : Nat → Int32} {n fr : Nat} (hf : fr < n) (hb : ∀ i, i < n → byR (tx i)) : fr < (t1 tx n fr).2.2.2 ∧ (t1 tx n fr).2.2.2 ≤ n := by
  have h := c1_adv tx (fun i => lN (rN gC (wdL.getD i []))) hf
  rw [(c1_t1 (fun i _ => rfl) hf hb).2.1] at h
  exact h
/-- where token k begins; the end: n -/
def tS (tx : Nat → Int32) (n : Nat) : Nat → Nat
  | 0 => skB tx n false 0
  | k + 1 => if tS tx n k < n then skB tx (n - (t1 tx n (tS tx n k)).2.2.2) false (t1 tx n (tS tx n k)).2.2.2 else n
/-- token k: kind, letters, value, end -/
def tD (tx : Nat → Int32) (n k : Nat) : Int32 × List Int32 × Int32 × Nat := if tS tx n k < n then t1 tx n (tS tx n k) else (0, [], 0, n)
theorem tS_le {tx : Nat → Int32} {n : Nat} (hb : ∀ i, i < n → byR (tx i)) : ∀ k, tS tx n k ≤ n
  | 0 => by
    have := (skB_le tx n false 0).2
    unfold tS
    omega
  | k + 1 => by
    unfold tS
    by_cases h : tS tx n k < n
    · rw [if_pos h]
      have a := t1_adv h hb
      have b := (skB_le tx (n - (t1 tx n (tS tx n k)).2.2.2) false (t1 tx n (tS tx n k)).2.2.2).2
      omega
    · rw [if_neg h]; exact Nat.le_refl n
theorem tS_up {tx : Nat → Int32} {n : Nat} (hb : ∀ i, i < n → byR (tx i)) {k : Nat} (h : tS tx n k < n) : tS tx n k < tS tx n (k + 1) := by
  show _ < (if tS tx n k < n then _ else n)
  rw [if_pos h]
  have a := t1_adv h hb
  have b := (skB_le tx (n - (t1 tx n (tS tx n k)).2.2.2) false (t1 tx n (tS tx n k)).2.2.2).1
  omega
/-- N tokens ahead of the end -/
def tEnd (tx : Nat → Int32) (n N : Nat) : Prop := tS tx n N = n ∧ ∀ k, k < N → tS tx n k < n
theorem tS_next (tx : Nat → Int32) (n k : Nat) : tS tx n (k + 1) = skB tx (n - (tD tx n k).2.2.2) false (tD tx n k).2.2.2 := by
  show (if tS tx n k < n then _ else n) = _
  unfold tD
  by_cases h : tS tx n k < n
  · rw [if_pos h, if_pos h]
  · rw [if_neg h, if_neg h]
    show n = skB tx (n - n) false n
    rw [Nat.sub_self]
    rfl
theorem tD_end {tx : Nat → Int32} {n k : Nat} (hb : ∀ i, i < n → byR (tx i)) : (tD tx n k).2.2.2 ≤ n := by
  unfold tD
  by_cases h : tS tx n k < n
  · rw [if_pos h]; exact (t1_adv h hb).2
  · rw [if_neg h]; exact Nat.le_refl n
/-- the kinds that a token ahead of the end may have -/
theorem t1_kind {tx : Nat → Int32} {n fr : Nat} (hf : fr < n) (hb : ∀ i, i < n → byR (tx i)) : (isLb (tx fr) = true ∧ ((t1 tx n fr).1 = 1 ∨ (t1 tx n fr).1 = 2 ∨ (t1 tx n fr).1 = 3 ∨ ∃ j, j < 16 ∧ (t1 tx n fr).1 = nI (5 + j)) ∧ (¬ (t1 tx n fr).1 = 1 → (∀ b ∈ (t1 tx n fr).2.1, isW b) ∧ (t1 tx n fr).2.1.length ≤ 10)) ∨ (¬ isLb (tx fr) = true ∧ ((t1 tx n fr).1 = 1 ∨ (t1 tx n fr).1 = 4 ∨ (t1 tx n fr).1 = 200 ∨ (t1 tx n fr).1 = 201 ∨ (t1 tx n fr).1 ∈ sgM)) := by
  unfold t1
  by_cases h1 : isLb (tx fr) = true
  · refine Or.inl ⟨h1, ?_⟩
    rw [if_pos h1]
    by_cases g : (scL tx (n - fr) [] fr).2 - fr ≤ 10
    · rw [if_pos g]
      have hl := scL_w (tx := tx) (n - fr) [] fr (fun q hq => hb q (by omega)) (fun b hb => nomatch hb)
      refine ⟨?_, fun _ => ⟨hl, scL_10 g⟩⟩
      by_cases u : 90 < tx fr
      · simp only [if_pos u]
        rcases wdX_3 (scL tx (n - fr) [] fr).1 16 0 (by omega) with q | ⟨j, _, b, q⟩
        · exact Or.inr (Or.inr (Or.inl q))
        · exact Or.inr (Or.inr (Or.inr ⟨j, by omega, q⟩))
      · rw [if_neg u]
        exact Or.inr (Or.inl rfl)
    · rw [if_neg g]
      exact ⟨Or.inl rfl, fun z => absurd rfl z⟩
  · refine Or.inr ⟨h1, ?_⟩
    rw [if_neg h1]
    by_cases h2 : isDb (tx fr) = true
    · rw [if_pos h2]
      by_cases g : (scD tx (n - fr) 0 fr).2 - fr ≤ 9
      · rw [if_pos g]; exact Or.inr (Or.inl rfl)
      · rw [if_neg g]; exact Or.inl rfl
    · rw [if_neg h2]
      rcases same_sign hb hf with ⟨a1, a2, e⟩ | ⟨a, ⟨m, e⟩ | ⟨m, e⟩⟩
      · rw [e]
        by_cases u : (tx fr &&& 255) = 61
        · rw [if_pos u, if_neg (show ¬ ((200 : Int32), fr + 2).1 = 0 from fun q => absurd (show (200 : Int32) = 0 from q) (by decide))]; exact Or.inr (Or.inr (Or.inl rfl))
        · rw [if_neg u, if_neg (show ¬ ((201 : Int32), fr + 2).1 = 0 from fun q => absurd (show (201 : Int32) = 0 from q) (by decide))]; exact Or.inr (Or.inr (Or.inr (Or.inl rfl)))
      · rw [e, if_neg (show ¬ ((tx fr &&& 255), fr + 1).1 = 0 from (sg_ok m).2.2.2)]
        exact Or.inr (Or.inr (Or.inr (Or.inr m)))
      · rw [e, if_pos (show ((0 : Int32), n).1 = 0 from rfl)]; exact Or.inl rfl
theorem t1_n0 {tx : Nat → Int32} {n fr : Nat} (hf : fr < n) (hb : ∀ i, i < n → byR (tx i)) : ¬ (t1 tx n fr).1 = 0 := by
  intro e
  rcases t1_kind hf hb with ⟨_, h, _⟩ | ⟨_, h⟩
  · rw [e] at h
    rcases h with h | h | h | ⟨j, hj, h⟩
    · exact absurd h (by decide)
    · exact absurd h (by decide)
    · exact absurd h (by decide)
    · exact nI_ne0 (n := 5 + j) (by omega) (by omega) h.symm
  · rw [e] at h
    exact absurd h (by decide)
