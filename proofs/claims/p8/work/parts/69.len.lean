/-! ===== how long what is read is ===== -/
section MJ69
variable {T : TT} {M : Nat}
theorem pOwn_len : ∀ (f k c c' : Nat), pOwn T f k c = .inr c' → 1 ≤ f → c + 2 ≤ c'
  | 0, _, _, _, _, h => by omega
  | f + 1, k, c, c', h, _ => by
    unfold pOwn at h
    by_cases h1 : (T c).1 = 12 ∨ (T c).1 = 13 ∨ (T c).1 = 3
    · rw [if_pos h1] at h
      by_cases h2 : k = 5
      · rw [if_pos h2] at h; cases h
      · rw [if_neg h2] at h
        by_cases h3 : (T (c + 1)).1 = 44
        · rw [if_pos h3] at h
          cases f with
          | zero =>
            have : c + 2 = c' := by simpa [pOwn] using h
            omega
          | succ f =>
            have := pOwn_len (f + 1) (k + 1) (c + 2) c' h (by omega)
            omega
        · rw [if_neg h3] at h
          by_cases h4 : (T (c + 1)).1 = 93
          · rw [if_pos h4] at h
            have : c + 2 = c' := by simpa using h
            omega
          · rw [if_neg h4] at h; cases h
    · rw [if_neg h1] at h; cases h
theorem pKind_len {c c' : Nat} (h : pKind T c = .inr c') : c + 4 ≤ c' := by
  unfold pKind at h
  by_cases h1 : (T c).1 = 2
  · rw [if_pos h1] at h
    by_cases h2 : (T (c + 1)).1 = 91
    · rw [if_pos h2] at h
      have := pOwn_len 6 0 (c + 2) c' h (by omega)
      omega
    · rw [if_neg h2] at h; cases h
  · rw [if_neg h1] at h; cases h
/-- x more orders than tokens at most -/
def lnZ (c : Nat) (x : Nat) (z : PZ) : Prop := c < z.1 ∧ z.2.2.2.1.length ≤ z.1 - c + x ∧ 4 * z.2.2.1.length ≤ z.1 - c
theorem pLoop_len {sg : Int32 → Bool} {rd : Nat → Nat → PX} {kq c : Nat} (hr : ∀ c kq y, rd c kq = .inr y → lnZ c 0 y) : ∀ (k : Nat) (z y : PZ), lnZ c 0 z → pLoop T sg rd kq k z = .inr y → lnZ c 0 y
  | 0, z, y, hz, h => by cases h; exact hz
  | k + 1, z, y, hz, h => by
    unfold pLoop at h
    by_cases g : sg (T z.1).1 = true
    · rw [if_pos g] at h
      cases hd : rd (z.1 + 1) (kq + z.2.2.1.length) with
      | inl e => rw [hd] at h; cases h
      | inr w =>
        rw [hd] at h
        have hw := hr _ _ _ hd
        refine pLoop_len hr k _ y ?_ h
        obtain ⟨a1, a2, a3⟩ := hz
        obtain ⟨b1, b2, b3⟩ := hw
        refine ⟨?_, ?_, ?_⟩
        · show c < w.1; omega
        · simp only [List.length_append, List.length_singleton]; omega
        · simp only [List.length_append]; omega
    · rw [if_neg g] at h
      cases h
      exact hz
theorem pPost_len {ra : Nat → Nat → PX} {kq c : Nat} (hr : ∀ c kq y, ra c kq = .inr y → lnZ c 1 y) : ∀ (k : Nat) (z y : PZ), lnZ c 0 z → pPost T ra kq k z = .inr y → lnZ c 0 y
  | 0, z, y, hz, h => by cases h; exact hz
  | k + 1, z, y, hz, h => by
    unfold pPost at h
    obtain ⟨a1, a2, a3⟩ := hz
    by_cases g : (T z.1).1 = 20
    · rw [if_pos g] at h
      cases hd : pKind T (z.1 + 1) with
      | inl e => rw [hd] at h; cases h
      | inr c' =>
        rw [hd] at h
        have hw := pKind_len hd
        refine pPost_len hr k _ y ⟨?_, ?_, ?_⟩ h
        · show c < c'; omega
        · simp only [List.length_append, List.length_singleton]; omega
        · simp only [List.length_append, List.length_singleton]; omega
    · rw [if_neg g] at h
      by_cases g2 : (T z.1).1 = 46
      · rw [if_pos g2] at h
        by_cases g3 : (T (z.1 + 1)).1 = 3
        · rw [if_pos g3] at h
          by_cases g4 : (T (z.1 + 2)).1 = 40
          · rw [if_pos g4] at h
            cases hd : ra (z.1 + 2) (kq + z.2.2.1.length) with
            | inl e => rw [hd] at h; cases h
            | inr w =>
              rw [hd] at h
              obtain ⟨b1, b2, b3⟩ := hr _ _ _ hd
              refine pPost_len hr k _ y ⟨?_, ?_, ?_⟩ h
              · show c < w.1; omega
              · simp only [List.length_append]; omega
              · simp only [List.length_append]; omega
          · rw [if_neg g4] at h
            refine pPost_len hr k _ y ⟨?_, ?_, ?_⟩ h
            · show c < z.1 + 2; omega
            · simp only [List.length_append, List.length_singleton]; omega
            · show 4 * z.2.2.1.length ≤ z.1 + 2 - c; omega
        · rw [if_neg g3] at h; cases h
      · rw [if_neg g2] at h
        cases h
        exact ⟨a1, a2, a3⟩
theorem pArgs_len {rv : Nat → Nat → PX} {kq c : Nat} (hr : ∀ c kq y, rv c kq = .inr y → lnZ c 0 y) : ∀ (f k : Nat) (z : PZ) (y : Nat × PZ), (c ≤ z.1 ∧ z.2.2.2.1.length ≤ z.1 - c ∧ 4 * z.2.2.1.length ≤ z.1 - c) → pArgs T rv kq f k z = .inr y → lnZ c 0 y.2
  | 0, k, z, y, hz, h => by cases h
  | f + 1, k, z, y, hz, h => by
    unfold pArgs at h
    obtain ⟨a1, a2, a3⟩ := hz
    by_cases g : k = 6
    · rw [if_pos g] at h; cases h
    · rw [if_neg g] at h
      cases hd : rv z.1 (kq + z.2.2.1.length) with
      | inl e => rw [hd] at h; cases h
      | inr w =>
        rw [hd] at h
        obtain ⟨b1, b2, b3⟩ := hr _ _ _ hd
        by_cases g2 : (T w.1).1 = 44
        · simp only [if_pos g2] at h
          refine pArgs_len hr f (k + 1) _ y ⟨?_, ?_, ?_⟩ h
          · show c ≤ w.1 + 1; omega
          · simp only [List.length_append, List.length_singleton]; omega
          · simp only [List.length_append]; omega
        · simp only [if_neg g2] at h
          by_cases g3 : (T w.1).1 = 41
          · simp only [if_pos g3] at h
            cases h
            refine ⟨?_, ?_, ?_⟩
            · show c < w.1 + 1; omega
            · simp only [List.length_append, List.length_singleton]; omega
            · simp only [List.length_append]; omega
          · simp only [if_neg g3] at h; cases h
theorem prE_len : ∀ (f tag o c kq : Nat) (y : PZ), tag ≤ 6 → prE T M f tag o c kq = .inr y → lnZ c (if tag = 6 then 1 else 0) y
  | 0, _, _, _, _, _, _, h => by cases h
  | f + 1, 0, o, c, kq, y, _, h => by
    have ih := prE_len f
    rw [prE_0] at h
    cases hd : prE T M f 1 o c kq with
    | inl e => rw [hd] at h; cases h
    | inr z =>
      rw [hd] at h
      have hz := ih 1 o c kq z (by omega) hd
      obtain ⟨a1, a2, a3⟩ := hz
      by_cases g : isCmp (T z.1).1 = true
      · simp only [if_pos g] at h
        cases hd2 : prE T M f 1 o (z.1 + 1) (kq + z.2.2.1.length) with
        | inl e => rw [hd2] at h; cases h
        | inr w =>
          rw [hd2] at h
          obtain ⟨b1, b2, b3⟩ := ih 1 o _ _ w (by omega) hd2
          simp only [show ¬ (1 : Nat) = 6 by decide, if_false] at a2 b2
          cases h
          refine ⟨?_, ?_, ?_⟩
          · show c < w.1; omega
          · simp only [List.length_append, List.length_singleton]; omega
          · simp only [List.length_append]; omega
      · simp only [if_neg g] at h
        cases h
        exact ⟨a1, a2, a3⟩
  | f + 1, 1, o, c, kq, y, _, h => by
    have ih := prE_len f
    rw [prE_1] at h
    cases hd : prE T M f 2 o c kq with
    | inl e => rw [hd] at h; cases h
    | inr z =>
      rw [hd] at h
      exact pLoop_len (fun c kq y hy => ih 2 o c kq y (by omega) hy) M z y (ih 2 o c kq z (by omega) hd) h
  | f + 1, 2, o, c, kq, y, _, h => by
    have ih := prE_len f
    rw [prE_2] at h
    cases hd : prE T M f 3 o c kq with
    | inl e => rw [hd] at h; cases h
    | inr z =>
      rw [hd] at h
      exact pLoop_len (fun c kq y hy => ih 3 o c kq y (by omega) hy) M z y (ih 3 o c kq z (by omega) hd) h
  | f + 1, 3, o, c, kq, y, _, h => by
    have ih := prE_len f
    rw [prE_3] at h
    by_cases g : (T c).1 = 45
    · rw [if_pos g] at h
      by_cases g2 : o = 12
      · rw [if_pos g2] at h; cases h
      · rw [if_neg g2] at h
        cases hd : prE T M f 3 (o + 1) (c + 1) kq with
        | inl e => rw [hd] at h; cases h
        | inr z =>
          rw [hd] at h
          obtain ⟨a1, a2, a3⟩ := ih 3 (o + 1) (c + 1) kq z (by omega) hd
          simp only [show ¬ (3 : Nat) = 6 by decide, if_false] at a2
          cases h
          refine ⟨?_, ?_, ?_⟩
          · show c < z.1; omega
          · simp only [List.length_append, List.length_singleton, show ¬ (3 : Nat) = 6 by decide, if_false]; omega
          · show 4 * z.2.2.1.length ≤ z.1 - c; omega
    · rw [if_neg g] at h
      exact ih 4 o c kq y (by omega) h
  | f + 1, 4, o, c, kq, y, _, h => by
    have ih := prE_len f
    rw [prE_4] at h
    cases hd : prE T M f 5 o c kq with
    | inl e => rw [hd] at h; cases h
    | inr z =>
      rw [hd] at h
      exact pPost_len (fun c kq y hy => ih 6 o c kq y (by omega) hy) M z y (ih 5 o c kq z (by omega) hd) h
  | f + 1, 5, o, c, kq, y, _, h => by
    have ih := prE_len f
    rw [prE_5] at h
    unfold pAtom at h
    have one : ∀ (r : Row) (sh : Int32), lnZ c (if (5 : Nat) = 6 then 1 else 0) (c + 1, sh, [], [r], []) := fun r sh => ⟨by show c < c + 1; omega, by show 1 ≤ c + 1 - c + _; omega, by show 4 * 0 ≤ _; omega⟩
    by_cases k3 : (T c).1 = 3
    · rw [if_pos k3] at h; cases h; exact one _ _
    rw [if_neg k3] at h
    by_cases k4 : (T c).1 = 4
    · rw [if_pos k4] at h; cases h; exact one _ _
    rw [if_neg k4] at h
    by_cases k11 : (T c).1 = 11
    · rw [if_pos k11] at h; cases h; exact one _ _
    rw [if_neg k11] at h
    by_cases k12 : (T c).1 = 12
    · rw [if_pos k12] at h; cases h; exact one _ _
    rw [if_neg k12] at h
    by_cases k14 : (T c).1 = 14
    · rw [if_pos k14] at h
      cases hd : pKind T (c + 1) with
      | inl e => rw [hd] at h; cases h
      | inr c' =>
        rw [hd] at h
        have := pKind_len hd
        cases h
        exact ⟨by show c < c'; omega, by show 1 ≤ c' - c + _; omega, by show 4 * 1 ≤ c' - c; omega⟩
    rw [if_neg k14] at h
    by_cases k40 : (T c).1 = 40
    · rw [if_pos k40] at h
      by_cases g2 : o = 12
      · rw [if_pos g2] at h; cases h
      · rw [if_neg g2] at h
        cases hd : prE T M f 0 (o + 1) (c + 1) kq with
        | inl e => rw [hd] at h; cases h
        | inr z =>
          rw [hd] at h
          obtain ⟨a1, a2, a3⟩ := ih 0 (o + 1) (c + 1) kq z (by omega) hd
          simp only [show ¬ (0 : Nat) = 6 by decide, if_false] at a2
          by_cases g3 : (T z.1).1 = 41
          · simp only [if_pos g3] at h
            cases h
            refine ⟨?_, ?_, ?_⟩
            · show c < z.1 + 1; omega
            · simp only [List.length_append, List.length_singleton]; omega
            · show 4 * z.2.2.1.length ≤ z.1 + 1 - c; omega
          · simp only [if_neg g3] at h; cases h
    · rw [if_neg k40] at h; cases h
  | f + 1, 6, o, c, kq, y, _, h => by
    have ih := prE_len f
    rw [prE_6] at h
    unfold pCall at h
    by_cases g2 : o = 12
    · rw [if_pos g2] at h; cases h
    · rw [if_neg g2] at h
      by_cases g3 : (T (c + 1)).1 = 41
      · rw [if_pos g3] at h
        cases h
        exact ⟨by show c < c + 2; omega, by show 2 ≤ c + 2 - c + _; omega, by show 4 * 0 ≤ _; omega⟩
      · rw [if_neg g3] at h
        cases hd : pArgs T (prE T M f 0 (o + 1)) kq 7 0 (c + 1, 0, [], [], []) with
        | inl e => rw [hd] at h; cases h
        | inr w =>
          rw [hd] at h
          obtain ⟨a1, a2, a3⟩ := pArgs_len (c := c + 1) (fun c kq y hy => ih 0 (o + 1) c kq y (by omega) hy) 7 0 (c + 1, 0, [], [], []) w ⟨Nat.le_refl _, by show 0 ≤ _; omega, by show 4 * 0 ≤ _; omega⟩ hd
          cases h
          refine ⟨?_, ?_, ?_⟩
          · show c < w.2.1; omega
          · simp only [List.length_cons, List.length_append, List.length_nil, if_true]; omega
          · show 4 * w.2.2.2.1.length ≤ w.2.1 - c; omega
end MJ69
