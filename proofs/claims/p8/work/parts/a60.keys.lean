/-! ===== the class's keys against the names ===== -/
section MJA60
variable {tx : Nat → Int32} {n N : Nat} {s s' : mjSt3}
theorem holds_end : ∀ (l : List (Int32 × Nat × Int64)) (m : Nat) (t : Int32 × Nat × Int64), holdsT s m (l ++ [t]) → s.2.1 62 (m + l.length) = t.2.2
  | [], m, t, h => h.1.2.2.1
  | x :: l, m, t, h => by
    have := holds_end l (m + 1) t h.2
    rw [List.length_cons, show m + (l.length + 1) = m + 1 + l.length by omega]
    exact this
theorem rN_pos {g : Int32 → Nat} {l : List Int32} (h : ∀ b ∈ l, 1 ≤ g b) (hl : 0 < l.length) : 1 ≤ rN g l := by
  cases l with
  | nil => simp at hl
  | cons b l =>
    have := h b List.mem_cons_self
    show 1 ≤ rN g l * 64 + g b
    omega
theorem nm_let (hb : ∀ i, i < n → byR (tx i)) {k : Nat} (h : nk (tD tx n k).1) : (∀ b ∈ (tD tx n k).2.1, isW b) ∧ (tD tx n k).2.1.length ≤ 10 ∧ 0 < (tD tx n k).2.1.length := by
  unfold tD at h ⊢
  by_cases g : tS tx n k < n
  · rw [if_pos g] at h ⊢
    have lb := kd_lb g hb h
    have n1 : ¬ (t1 tx n (tS tx n k)).1 = 1 := fun e => by
      rcases h with h | h <;> · rw [e] at h; exact absurd h (by decide)
    rcases t1_kind g hb with ⟨_, _, a⟩ | ⟨a, _⟩
    · refine ⟨(a n1).1, (a n1).2, ?_⟩
      have adv := (t1_adv g hb).1
      unfold t1 at adv n1 ⊢
      rw [if_pos lb] at adv n1 ⊢
      by_cases u : (scL tx (n - tS tx n k) [] (tS tx n k)).2 - tS tx n k ≤ 10
      · rw [if_pos u] at adv ⊢
        have e := scL_len (tx := tx) (n - tS tx n k) [] (tS tx n k)
        have e0 : ([] : List Int32).length = 0 := rfl
        dsimp only at adv ⊢
        omega
      · rw [if_neg u] at n1
        exact absurd rfl n1
    · exact absurd lb a
  · rw [if_neg g] at h
    exact absurd (show (0 : Int32) = 2 ∨ (0 : Int32) = 3 from h) (by decide)
theorem lN_ne {l : List Int32} (h1 : ∀ b ∈ l, isW b) (h2 : l.length ≤ 10) (h3 : 0 < l.length) : ¬ lN (rN gC l) = 0 := by
  have p := rN_pos (fun b hb => (cd_of (h1 b hb)).1.1) h3
  have a := rN_lt (P := isW) (g := gC) (fun b hb => (cd_of hb).1) l h1
  have b : 64 ^ l.length ≤ 64 ^ 10 := Nat.pow_le_pow_right (by decide) h2
  have c : (64 : Nat) ^ 10 < 2 ^ 63 := by decide
  intro e
  have k : (lN (rN gC l)).toInt = (0 : Int64).toInt := by rw [e]
  rw [pk_lT (by omega)] at k
  have z : (0 : Int64).toInt = 0 := by decide
  omega
theorem cut_KY (hn : n ≤ 3000) (hw : ∀ i, i < 16 → s.2.1 59 i = lN (rN gC (wdL.getD i []))) (hb : ∀ i, i < n → byR (s.1 1 i)) (h : cutS s s' n) : ∃ N, N ≤ n ∧ TH (mTT (s.1 1) n) N s' ∧ KY (mTT (s.1 1) n) N s' := by
  have h' := h
  obtain ⟨h1, _, _, _, h5, _, _, _⟩ := h'
  have k := holds_tok (s := s') hw hb n 0 0 (by omega) h5
  simp only [Nat.zero_add] at k
  have lN' : (cToks s n).length ≤ n := by
    have := toks_len (s.1 1) (s.2.1 59) n n (skB (s.1 1) n false 0)
    have q := (skB_le (s.1 1) n false 0).2
    unfold cToks
    omega
  have z := holds_end (s := s') (cToks s n) 0 (0, n, 0) h5
  rw [Nat.zero_add] at z
  obtain ⟨k1, k2, k3⟩ := k
  have e0 : (tD (s.1 1) n (cToks s n).length).1 = 0 := by
    unfold tD
    rw [if_neg (by have : tS (s.1 1) n (cToks s n).length = n := k2; omega)]
  refine ⟨(cToks s n).length, lN', ⟨h1, by omega, e0, fun j hj => ⟨(k3 j hj).1, (k3 j hj).2.1⟩⟩, z, fun j hj hk => ?_, fun i j hi hj ki kj => ?_, fun j hj hk => (k3 j hj).2.2.2 hk⟩
  · have a := nm_let hb (k := j) hk
    rw [(k3 j hj).2.2.1 hk]
    exact lN_ne a.1 a.2.1 a.2.2
  · have a := nm_let hb (k := i) ki
    have b := nm_let hb (k := j) kj
    rw [(k3 i hi).2.2.1 ki, (k3 j hj).2.2.1 kj]
    exact same_key a.1 b.1 a.2.1 b.2.1
end MJA60
