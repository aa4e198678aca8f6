/-! ===== the reference: a body; what rows are nothing to a reader ===== -/
section MJ92
variable {tx : Nat → Int32} {n b D k o td N : Nat} {s s' : mjSt3} {W : List WF} {os : List Row} {ks : List Nat} {S : List SF}
theorem lB_end (h : MR tx n b s k o W os ks) (m : MS s td []) (hl : os.length < 4990) : ∃ s', (∀ q, lB D (q + 1) s = some (none, mjW0 s')) ∧ MR tx n b s' k o W (os ++ [oOver]) ks ∧ offE b s s' ∧ s'.1 97 = s.1 97 := by
  obtain ⟨s1, e1, a1, r1, f1⟩ := m_order (d := D + 11) h hl 28 (-1) 0 0
  refine ⟨s1, fun q => ?_, a1, r1, f1⟩
  unfold lB
  rw [L279_S]
  unfold b_279_12 b_279_49
  rw [xg_97_61, h.2.1.2.1, if_pos rfl, xg_97_71, m.2.1, if_pos (show nI ([] : List SF).length ≤ 0 by decide), xg_97_61, h.2.1.2.1, if_pos rfl, xV_97, e1, bN_s]
/-- readBody -/
theorem m_body (h0 : (mTT tx n N).1 = 0) (hN : N ≤ 3000) (ho : o ≤ 12) (hk : k ≤ N) (hos : 6 * os.length ≤ 7 * k) (hks : 4 * ks.length ≤ k) (htd : td ≤ 16) (h : MR tx n b s k o W os ks) (ht : s.1 97 67 = nI td) : match prS (mTT tx n) (N + 1) 30 0 o k td (800 * b + ks.length) os.length with
    | .inl e => ∃ s' x, mjF (D + 13) 279 [.ref 97] (mjW0 s) = some (none, mjW0 s') ∧ MZ (mTT tx n) b s' e x ∧ x ≤ 4720 ∧ offS b s s'
    | .inr z => bB N k z ∧ ∃ s' W', mjF (D + 13) 279 [.ref 97] (mjW0 s) = some (none, mjW0 s') ∧ MR tx n b s' z.1 o W' (os ++ (z.2.2.2.1 ++ [oOver])) (ks ++ z.2.2.1) ∧ s'.1 97 67 = nI z.2.1 ∧ offS b s s' := by
  have hmj := mjN_v
  obtain ⟨t0, h0t⟩ : ∃ t, t = uI s 97 (upd (s.1 97) 71 0) := ⟨_, rfl⟩
  have a0 : MR tx n b t0 k o W os ks := by rw [h0t]; exact h.w97 (by omega)
  have m0 : MS t0 td [] := by
    rw [h0t]
    refine ⟨?_, ?_, fun i f hf => ?_⟩
    · rw [uI_same]; exact (if_neg (by decide)).trans ht
    · rw [uI_same]; exact if_pos rfl
    · cases hf
  have o0 : offS b s t0 := by rw [h0t]; exact offG.w (by unfold chS; omega)
  have Bk := blk_ok (d := D + 6) (D := D) (S := []) (o := o) (k := k) (s := t0) (W := W) (os := os) (ks := ks) (td := td) (b := b) (rd := prS (mTT tx n) (N + 1) 29 1 (o + 1)) (0, -1, -1) (by decide) h0 hN (fun h12 k s W os ks td hk hos hks htd a m n1 => st_ok h0 hN 29 (o + 1) [(0, -1, -1)] k s W os ks td (by omega) (by omega) (by show 1 ≤ o + 1; omega) (Nat.le_refl 1) hk hos hks htd a m n1) ho hk hos hks htd a0 m0
  have pre : ∀ t, mjF (D + 12) 280 [.ref 97, .int 0, .int (-1), .int (-1)] (mjW0 t0) = some (none, mjW0 t) → mjF (D + 13) 279 [.ref 97] (mjW0 s) = lB D mjN t := by
    intro t e
    rw [e_279]
    unfold f_279 b_279_0
    rw [xp_97_71, ← h0t, xV_97, e, bN_s]
    rfl
  rw [prS_0, pBlk_in]
  cases hp : pIn (mTT tx n) (N + 1) (prS (mTT tx n) (N + 1) 29 1 (o + 1)) o k td (800 * b + ks.length) os.length with
  | inl e =>
    rw [hp] at Bk
    obtain ⟨t, s2, j, x, g1, g2, g3, g4, g5, g6⟩ := Bk
    refine ⟨s2, x, ?_, g4, g5, o0.tr g6⟩
    rw [pre t g1, show mjN = (mjN - j) + j by omega]
    exact g2 _
  | inr z =>
    rw [hp] at Bk
    obtain ⟨d1, d2, d3, d4, d5, d6, t, s2, j2, W2, g1, g2, g3, g4, g5, g6⟩ := Bk
    obtain ⟨s3, e3, a3, m3, r3⟩ := m_end1 (D := D + 2) (S := []) g4 g5 (by decide) (by rw [List.length_append]; omega) d1 (Or.inl rfl)
    obtain ⟨s4, e4, a4, r4, f4⟩ := lB_end (D := D) a3 m3 (by rw [List.length_append, List.length_append, List.length_singleton]; omega)
    refine ⟨⟨by show k < z.1 + 1; omega, by show z.1 + 1 ≤ N; omega, ?_, ?_, d6⟩, s4, W2, ?_, ?_, ?_, o0.tr (g6.tr (r3.tr (offS_of r4)))⟩
    · simp only [List.length_append, List.length_cons, List.length_nil]; omega
    · show 4 * z.2.2.1.length ≤ z.1 + 1 - k; omega
    · rw [pre t g1, show mjN = ((mjN - j2 - 2) + 1 + 1) + j2 by omega, g2, lB_step g4 g5 (Nat.le_refl 1) (by decide), if_pos d1, e3, bN_s]
      exact e4 _
    · rw [List.append_assoc, List.append_assoc] at a4
      rw [List.append_assoc]
      exact a4
    · rw [f4]; exact m3.1
/-- rows that are nothing to a reader of tokens, KINDS, orders -/
def chRow (h j : Nat) : Prop := (h = 97 ∧ (j = 65 ∨ j = 66 ∨ j = 67 ∨ j = 71)) ∨ (100 ≤ h ∧ h ≤ 120) ∨ (123 ≤ h ∧ h ≤ 135) ∨ (148 ≤ h ∧ h ≤ 150)
def chRowL (h _j : Nat) : Prop := (100 ≤ h ∧ h ≤ 120) ∨ (123 ≤ h ∧ h ≤ 135)
theorem MR.keep (h : MR tx n b s k o W os ks) (r : offG chRow chRowL s s') : MR tx n b s' k o W os ks := by
  obtain ⟨⟨a1, a2⟩, ⟨b1, b2, b3, b4⟩, ⟨c1, c2⟩, ⟨d1, d2⟩, e1, e2⟩ := h
  have q : ∀ x i, ¬ chRow x i → s'.1 x i = s.1 x i := r.1
  have l : ∀ x i, ¬ chRowL x i → s'.2.1 x i = s.2.1 x i := r.2.1
  have q97 : ∀ i, i < 65 ∨ 72 ≤ i → s'.1 97 i = s.1 97 i := fun i hi => q 97 i (by unfold chRow; omega)
  refine ⟨⟨?_, ?_⟩, ⟨b1, ?_, ?_, ?_⟩, ⟨?_, fun i f hf => ?_⟩, ⟨?_, fun i x hx => ?_⟩, ?_, fun i t ht => ?_⟩
  · obtain ⟨p1, p2, p3, p4, p5⟩ := a1
    refine ⟨p1, ?_, ?_, p4, fun i hi => ?_⟩
    · rw [q97 2 (by omega), p2]
    · rw [← p3]; funext i; exact q 98 i (by unfold chRow; omega)
    · rw [l 99 _ (by unfold chRowL; omega)]; exact p5 i hi
  · unfold MT at a2 ⊢
    rw [q97 3 (by omega), q97 4 (by omega), q97 5 (by omega), q97 6 (by omega), l 97 7 (by unfold chRowL; omega)]; exact a2
  · rw [q97 61 (by omega), b2]
  · rw [q97 63 (by omega), b3]
  · rw [q97 64 (by omega), b4]
  · rw [q97 76 (by omega), c1]
  · unfold Wt
    rw [q 151 _ (by unfold chRow; omega), q 152 _ (by unfold chRow; omega), q 153 _ (by unfold chRow; omega), q 154 _ (by unfold chRow; omega), q 182 _ (by unfold chRow; omega)]
    exact c2 i f hf
  · rw [q 122 _ (by unfold chRow; omega), d1]
  · unfold Rw
    rw [q 143 _ (by unfold chRow; omega), q 144 _ (by unfold chRow; omega), q 145 _ (by unfold chRow; omega), q 146 _ (by unfold chRow; omega), l 147 _ (by unfold chRowL; omega)]
    exact d2 i x hx
  · rw [q 121 _ (by unfold chRow; omega), e1]
  · obtain ⟨p1, p2, p3, p4, p5⟩ := e2 i t ht
    refine ⟨p1, ?_, ?_, ?_, fun i hi => ?_⟩
    · rw [l 136 _ (by unfold chRowL; omega), p2]
    · rw [q 137 _ (by unfold chRow; omega), p3]
    · rw [q 138 _ (by unfold chRow; omega), p4]
    · rw [l 140 _ (by unfold chRowL; omega), q 141 _ (by unfold chRow; omega)]; exact p5 i hi
theorem MZ.keep {T : TT} {e : Nat × Nat} {m : Nat} (h : MZ T b s e m) (r : offG chRow chRowL s s') : MZ T b s' e m := by
  obtain ⟨h1, h2, h3, h4, h5, h6⟩ := h
  have q : ∀ x i, ¬ chRow x i → s'.1 x i = s.1 x i := r.1
  exact ⟨h1, h2, by rw [q 97 61 (by unfold chRow; omega), h3], by rw [q 97 62 (by unfold chRow; omega), h4], by rw [q 97 63 (by unfold chRow; omega), h5], by rw [q 122 b (by unfold chRow; omega), h6]⟩
end MJ92
