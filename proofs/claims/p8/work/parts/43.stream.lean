/-! ===== both sides hold the same tokens ===== -/
section MJ43
variable {a b : Nat → Int32} {n : Nat}
theorem cg_skB (h : ∀ i, i < n → a i = b i) : ∀ (k : Nat) (f : Bool) (i : Nat), i + k ≤ n → skB a k f i = skB b k f i
  | 0, _, _, _ => rfl
  | k + 1, f, i, hi => by
    unfold skB
    rw [h i (by omega), cg_skB h k false (i + 1) (by omega), cg_skB h k true (i + 1) (by omega), cg_skB h k f (i + 1) (by omega)]
theorem cg_scL (h : ∀ i, i < n → a i = b i) : ∀ (k : Nat) (l : List Int32) (i : Nat), i + k ≤ n → scL a k l i = scL b k l i
  | 0, _, _, _ => rfl
  | k + 1, l, i, hi => by
    unfold scL
    rw [h i (by omega), cg_scL h k _ (i + 1) (by omega)]
theorem cg_scD (h : ∀ i, i < n → a i = b i) : ∀ (k : Nat) (v : Int64) (i : Nat), i + k ≤ n → scD a k v i = scD b k v i
  | 0, _, _, _ => rfl
  | k + 1, v, i, hi => by
    unfold scD
    rw [h i (by omega), cg_scD h k _ (i + 1) (by omega)]
theorem cg_sgT (h : ∀ i, i < n → a i = b i) {fr : Nat} (hf : fr < n) : sgT a n fr = sgT b n fr := by
  unfold sgT
  rw [h fr hf]
  by_cases g : fr + 1 < n
  · rw [h (fr + 1) g]
  · rw [if_neg (show ¬ (fr + 1 < n ∧ a (fr + 1) = 61 ∧ (b fr = 61 ∨ b fr = 33)) from fun q => g q.1), if_neg (show ¬ (fr + 1 < n ∧ b (fr + 1) = 61 ∧ (b fr = 61 ∨ b fr = 33)) from fun q => g q.1)]
theorem cg_t1 (h : ∀ i, i < n → a i = b i) {fr : Nat} (hf : fr < n) : t1 a n fr = t1 b n fr := by
  unfold t1
  rw [h fr hf, cg_scL h (n - fr) [] fr (by omega), cg_scD h (n - fr) 0 fr (by omega), cg_sgT h hf]
theorem cg_tS (h : ∀ i, i < n → a i = b i) (hb : ∀ i, i < n → byR (a i)) : ∀ k, tS a n k = tS b n k
  | 0 => cg_skB h n false 0 (by omega)
  | k + 1 => by
    unfold tS
    rw [← cg_tS h hb k]
    by_cases g : tS a n k < n
    · rw [if_pos g, if_pos g, ← cg_t1 h g]
      have e := t1_adv g hb
      exact cg_skB h _ false _ (by omega)
    · rw [if_neg g, if_neg g]
theorem cg_tD (h : ∀ i, i < n → a i = b i) (hb : ∀ i, i < n → byR (a i)) (k : Nat) : tD a n k = tD b n k := by
  unfold tD
  rw [← cg_tS h hb k]
  by_cases g : tS a n k < n
  · rw [if_pos g, if_pos g, cg_t1 h g]
  · rw [if_neg g, if_neg g]
end MJ43
/-- the class's rows hold the N tokens of the text and the end -/
def TKC (tx : Nat → Int32) (n N : Nat) (s : mjSt3) : Prop := s.1 58 5 = nI (N + 1) ∧ ∀ k, k ≤ N → s.1 60 k = (tD tx n k).1 ∧ s.1 61 k = nI (tS tx n k) ∧ ((tD tx n k).1 = 2 ∨ (tD tx n k).1 = 3 → s.2.1 62 k = lN (rN gC (tD tx n k).2.1)) ∧ ((tD tx n k).1 = 4 → (s.2.1 62 k).toInt32 = (tD tx n k).2.2.1)
theorem kd_lb {tx : Nat → Int32} {n fr : Nat} (hf : fr < n) (hb : ∀ i, i < n → byR (tx i)) (h : (t1 tx n fr).1 = 2 ∨ (t1 tx n fr).1 = 3) : isLb (tx fr) = true := by
  rcases t1_kind hf hb with ⟨g, _, _⟩ | ⟨_, g⟩
  · exact g
  · exfalso
    rcases h with h | h
    · rw [h] at g
      exact absurd g (by decide)
    · rw [h] at g
      exact absurd g (by decide)
theorem holds_tok {tx : Nat → Int32} {w : Nat → Int64} {n : Nat} {s : mjSt3} (hw : ∀ i, i < 16 → w i = lN (rN gC (wdL.getD i []))) (hb : ∀ i, i < n → byR (tx i)) :
    ∀ (k i m : Nat), n ≤ tS tx n i + k → holdsT s m (toks tx w n k (tS tx n i) ++ [(0, n, 0)]) → (∀ j, j < (toks tx w n k (tS tx n i)).length → tS tx n (i + j) < n) ∧ tS tx n (i + (toks tx w n k (tS tx n i)).length) = n ∧
      ∀ j, j ≤ (toks tx w n k (tS tx n i)).length → s.1 60 (m + j) = (tD tx n (i + j)).1 ∧ s.1 61 (m + j) = nI (tS tx n (i + j)) ∧ ((tD tx n (i + j)).1 = 2 ∨ (tD tx n (i + j)).1 = 3 → s.2.1 62 (m + j) = lN (rN gC (tD tx n (i + j)).2.1)) ∧ ((tD tx n (i + j)).1 = 4 → (s.2.1 62 (m + j)).toInt32 = (tD tx n (i + j)).2.2.1) := by
  intro k
  have fin : ∀ (i m : Nat), ¬ tS tx n i < n → s.1 60 m = 0 → s.1 61 m = nI n → s.1 60 m = (tD tx n i).1 ∧ s.1 61 m = nI (tS tx n i) ∧ ((tD tx n i).1 = 2 ∨ (tD tx n i).1 = 3 → s.2.1 62 m = lN (rN gC (tD tx n i).2.1)) ∧ ((tD tx n i).1 = 4 → (s.2.1 62 m).toInt32 = (tD tx n i).2.2.1) := by
    intro i m h h0 h1
    have e : tS tx n i = n := by have := tS_le hb i; omega
    unfold tD
    rw [if_neg h, e]
    exact ⟨h0, h1, fun z => absurd (show (0 : Int32) = 2 ∨ (0 : Int32) = 3 from z) (by decide), fun z => absurd (show (0 : Int32) = 4 from z) (by decide)⟩
  induction k with
  | zero =>
    intro i m hk hh
    have e : tS tx n i = n := by have := tS_le hb i; omega
    refine ⟨fun j hj => absurd hj (Nat.not_lt_zero j), e, fun j hj => ?_⟩
    have hj0 : j = 0 := Nat.le_zero.mp hj
    subst hj0
    exact fin i m (by omega) hh.1.1 hh.1.2.1
  | succ k ih =>
    intro i m hk hh
    unfold toks at hh ⊢
    by_cases h : tS tx n i < n
    · rw [if_pos h] at hh ⊢
      have e := c1_t1 (w := w) hw h hb
      have es : skB tx (n - (c1 tx w n (tS tx n i)).2.2) false (c1 tx w n (tS tx n i)).2.2 = tS tx n (i + 1) := by
        rw [e.2.1]
        show _ = (if tS tx n i < n then _ else n)
        rw [if_pos h]
      rw [es] at hh ⊢
      have up := tS_up hb h
      obtain ⟨h1, h2, h3⟩ := ih (i + 1) (m + 1) (by omega) hh.2
      have e1 : ∀ j, i + 1 + j = i + (j + 1) := fun j => by omega
      have e2 : ∀ j, m + 1 + j = m + (j + 1) := fun j => by omega
      simp only [e1, e2] at h1 h2 h3
      refine ⟨fun j hj => ?_, h2, fun j hj => ?_⟩
      · cases j with
        | zero => exact h
        | succ j => exact h1 j (by simpa using hj)
      · cases j with
        | zero =>
          have td : tD tx n i = t1 tx n (tS tx n i) := if_pos h
          simp only [Nat.add_zero]
          rw [td]
          obtain ⟨⟨a1, a2, a3, a4⟩, _⟩ := hh
          refine ⟨a1.trans e.1, a2, fun z => ?_, fun z => ?_⟩
          · rw [a3]
            refine e.2.2.1 (kd_lb h hb z) (fun q => ?_)
            rw [q] at z
            exact absurd z (by decide)
          · rw [a3]
            exact e.2.2.2 z
        | succ j => exact h3 j (by simpa using hj)
    · rw [if_neg h] at hh ⊢
      have e : tS tx n i = n := by have := tS_le hb i; omega
      refine ⟨fun j hj => absurd hj (Nat.not_lt_zero j), e, fun j hj => ?_⟩
      have hj0 : j = 0 := Nat.le_zero.mp hj
      subst hj0
      exact fin i m h hh.1.1 hh.1.2.1
theorem cut_TKC {s s' : mjSt3} {n : Nat} (hw : ∀ i, i < 16 → s.2.1 59 i = lN (rN gC (wdL.getD i []))) (hb : ∀ i, i < n → byR (s.1 1 i)) (h : cutS s s' n) : ∃ N, N ≤ n ∧ tEnd (s.1 1) n N ∧ TKC (s.1 1) n N s' := by
  obtain ⟨h1, _, _, _, h5, _, _, _⟩ := h
  have k := holds_tok (s := s') hw hb n 0 0 (by omega) h5
  simp only [Nat.zero_add] at k
  refine ⟨(cToks s n).length, ?_, ⟨k.2.1, k.1⟩, h1, k.2.2⟩
  have := toks_len (s.1 1) (s.2.1 59) n n (skB (s.1 1) n false 0)
  have q := (skB_le (s.1 1) n false 0).2
  unfold cToks
  omega
/-- the reference is at token k -/
def MT (tx : Nat → Int32) (n k : Nat) (s : mjSt3) : Prop := s.1 97 3 = srt (tD tx n k).1 ∧ s.1 97 4 = nI (tS tx n k) ∧ (¬ (tD tx n k).1 = 1 → s.1 97 5 = nI (tD tx n k).2.2.2 ∧ (srt (tD tx n k).1 = 3 ∨ srt (tD tx n k).1 = 4 ∨ srt (tD tx n k).1 = 5 → s.1 97 6 = nbr (tD tx n k).1 (tD tx n k).2.2.1) ∧ (srt (tD tx n k).1 = 1 ∨ srt (tD tx n k).1 = 2 → s.2.1 97 7 = lN (rN gM (tD tx n k).2.1)))
/-- what the reference's tape and words are -/
def MB (tx : Nat → Int32) (n : Nat) (s : mjSt3) : Prop := n ≤ 3000 ∧ s.1 97 2 = nI n ∧ s.1 98 = tx ∧ (∀ i, i < n → byR (tx i)) ∧ ∀ i, i < 16 → s.2.1 99 (i + 1) = lN (rN gM (wdL.getD i []))
theorem MB.off {tx : Nat → Int32} {n : Nat} {s s' : mjSt3} (h : MB tx n s) (o : offN s s') : MB tx n s' := by
  obtain ⟨a, b, c, d, e⟩ := h
  refine ⟨a, ?_, ?_, d, fun i hi => ?_⟩
  · rw [o.2.1 2 (by decide) (by decide) (by decide) (by decide), b]
  · rw [o.1 98 (by decide), c]
  · rw [o.2.2.1 99 (by decide)]; exact e i hi
theorem mt_of {tx : Nat → Int32} {n k : Nat} {s s' : mjSt3} {old : Int32} (hm : MB tx n s) (h : nxS s s' (tS tx n k) (m1 tx (s.2.1 99) n (tS tx n k) old)) : MT tx n k s' := by
  obtain ⟨_, a4, a3, a6, a5, a7⟩ := h
  obtain ⟨_, _, _, hb, hw⟩ := hm
  unfold MT tD
  by_cases g : tS tx n k < n
  · rw [if_pos g]
    have e := m1_t1 (kp := s.2.1 99) old hw g hb
    refine ⟨a3.trans e.1, a4, fun z => ⟨?_, fun y => ?_, fun y => ?_⟩⟩
    · rw [a5, (e.2 z).1]
    · rw [a6, (e.2 z).2.1 y]
    · rw [a7 (by rw [e.1]; exact y), (e.2 z).2.2 y]
  · rw [if_neg g]
    have e : m1 tx (s.2.1 99) n (tS tx n k) old = (0, old, 0, n) := by
      unfold m1
      rw [if_neg g]
    rw [e] at a3 a5
    refine ⟨a3, a4, fun _ => ⟨a5, fun y => absurd (show srt 0 = 3 ∨ srt 0 = 4 ∨ srt 0 = 5 from y) (by decide), fun y => absurd (show srt 0 = 1 ∨ srt 0 = 2 from y) (by decide)⟩⟩
/-- next() goes from token k to the next -/
theorem x_mt {d n k : Nat} {tx : Nat → Int32} {s : mjSt3} (hm : MB tx n s) (h : MT tx n k s) (hk : ¬ (tD tx n k).1 = 1) : ∃ s', mjF (d + 3) 262 [.ref 97] (mjW0 s) = some (none, mjW0 s') ∧ MT tx n (k + 1) s' ∧ offN s s' := by
  have hm' := hm
  obtain ⟨hn, he, h98, hb, hw⟩ := hm'
  obtain ⟨s', e, g⟩ := x_next (d := d) (b := (tD tx n k).2.2.2) hn he (h.2.2 hk).1 (tD_end hb) (by rw [h98]; exact hb)
  rw [h98, ← tS_next] at g
  exact ⟨s', e, mt_of hm g, g.1⟩
theorem x_mt0 {d n : Nat} {tx : Nat → Int32} {s : mjSt3} (hm : MB tx n s) (h : s.1 97 5 = 0) : ∃ s', mjF (d + 3) 262 [.ref 97] (mjW0 s) = some (none, mjW0 s') ∧ MT tx n 0 s' ∧ offN s s' := by
  have hm' := hm
  obtain ⟨hn, he, h98, hb, hw⟩ := hm'
  obtain ⟨s', e, g⟩ := x_next (d := d) (b := 0) hn he h (Nat.zero_le n) (by rw [h98]; exact hb)
  rw [h98] at g
  exact ⟨s', e, mt_of hm g, g.1⟩
