/-! ===== the reference's readE ===== -/
section MJ82
variable {tx : Nat → Int32} {n b D k o N B : Nat} {s : mjSt3} {W : List WF} {os : List Row} {ks : List Nat}
/-- nothing waits -/
theorem MR.clr (h : MR tx n b s k o W os ks) : MR tx n b (uI s 97 (upd (s.1 97) 76 0)) k o [] os ks := by
  obtain ⟨⟨a1, a2⟩, ⟨b1, b2, b3, b4⟩, ⟨c1, c2⟩, ⟨d1, d2⟩, e1, e2⟩ := h
  have g : ∀ i, ¬ i = 76 → (uI s 97 (upd (s.1 97) 76 0)).1 97 i = s.1 97 i := fun i e => by rw [uI_same]; exact if_neg e
  have q : ∀ x, ¬ x = 97 → (uI s 97 (upd (s.1 97) 76 0)).1 x = s.1 x := fun x e => uI_ne _ _ _ _ e
  have f7 : ∀ i, i < 7 → upd (s.1 97) 76 0 i = s.1 97 i := fun i e => if_neg (by omega)
  refine ⟨⟨mb_w f7 a1, mt_w f7 a2⟩, ⟨b1, ?_, ?_, ?_⟩, ⟨?_, fun i f hf => ?_⟩, ⟨?_, fun i x hx => ?_⟩, ?_, fun i t ht => ?_⟩
  · rw [g 61 (by omega), b2]
  · rw [g 63 (by omega), b3]
  · rw [g 64 (by omega), b4]
  · rw [uI_same]; exact if_pos rfl
  · cases hf
  · rw [q 122 (by decide), d1]
  · unfold Rw
    rw [q 143 (by decide), q 144 (by decide), q 145 (by decide), q 146 (by decide)]
    exact d2 i x hx
  · rw [q 121 (by decide), e1]
  · unfold Kd
    rw [q 137 (by decide), q 138 (by decide), q 141 (by decide)]
    exact e2 i t ht
theorem lE_end {m : Nat} {w : Int32} (h : MR tx n b s k o [] os ks) : lE D (m + 1) w s = some (none, mjW0 s) := by
  unfold lE
  rw [L287_S]
  unfold b_287_18
  rw [xg_97_61, h.2.1.2.1, if_pos rfl, xg_97_76, h.2.2.1.1, if_pos (show nI ([] : List WF).length ≤ 0 by decide)]
/-- behind readE -/
def gVal (tx : Nat → Int32) (n b : Nat) (s : mjSt3) (u : mjU) (o : Nat) (os : List Row) (ks : List Nat) (r : PX) : Prop := match r with
  | .inl e => ∃ s' x, u = some (none, mjW0 s') ∧ MZ (mTT tx n) b s' e x ∧ x ≤ 4700 ∧ offE b s s'
  | .inr z => (isCmp (mTT tx n z.1).1 = true → ∃ s' x, u = some (none, mjW0 s') ∧ MZ (mTT tx n) b s' (F2 (mTT tx n) z.1) x ∧ x ≤ 4700 ∧ offE b s s') ∧ (¬ isCmp (mTT tx n z.1).1 = true → ∃ s', u = some (none, mjW0 s') ∧ MR tx n b s' z.1 o [] (os ++ z.2.2.2.1) (ks ++ z.2.2.1) ∧ offE b s s' ∧ s'.1 97 77 = z.2.1)
theorem m_E (h0 : (mTT tx n N).1 = 0) (hN : N ≤ 3000) (hB : B ≤ 1500) (ho : o ≤ 12) (hk : k ≤ N) (hos : os.length ≤ B + k) (hks : 4 * ks.length ≤ k) (h : MR tx n b s k o W os ks) : gVal tx n b s (mjF (D + 10) 287 [.ref 97] (mjW0 s)) o os ks (prV (mTT tx n) (N + 1) o k (800 * b + ks.length)) := by
  have hmj := mjN_v
  have a1 := h.clr
  obtain ⟨s2, x, e2, a2, r2, f2⟩ := m_waits (d := D + 8) a1 (show ([] : List WF).length < 64 by decide) 0 0 (mTT tx n k).2.1 0
  have r : offE b s s2 := (w97_off (by omega)).tr r2
  have pre : mjF (D + 10) 287 [.ref 97] (mjW0 s) = lE (D + 8) mjN 1 s2 := by
    rw [e_287]
    unfold f_287 b_287_0
    rw [xp_97_76, xg_97_4, a1.at.2.2.1, xV_97, e2, bN_s]
    rfl
  have C := (mE_ok (D := D) (b := b) h0 hN hB 100 o k s2 [] _ os ks ho hk (by show os.length + 0 ≤ _; omega) hks a2).1 (by omega) (by show 0 ≤ _; omega) (fun e => absurd (show (0 : Int32) = 2 from e) (by decide)) (fun e => absurd (show (0 : Int32) = 3 from e) (by decide))
  have zz : ∀ e, FZ (mTT tx n) b N (fun m => lE (D + 8) m 1 s2) s2 k e → ∃ s' x, mjF (D + 10) 287 [.ref 97] (mjW0 s) = some (none, mjW0 s') ∧ MZ (mTT tx n) b s' e x ∧ x ≤ 4700 ∧ offE b s s' := by
    intro e g
    obtain ⟨s3, j, y, g1, g2, g3, g4, g5⟩ := g
    refine ⟨s3, y, ?_, g3, g4, r.tr g5⟩
    rw [pre, show mjN = (mjN - j) + j by omega]
    exact g1 _
  unfold prV
  cases hd : prE (mTT tx n) (N + 1) 100 0 o k (800 * b + ks.length) with
  | inl e =>
    rw [hd] at C
    exact zz e C
  | inr z =>
    rw [hd] at C
    have hz := (prE_le hN h0 ho hk).1 (by omega) hd
    refine ⟨fun hc => zz _ (C.1 hc), fun hc => ?_⟩
    obtain ⟨s3, j, q, c1, c2, c3, c4, c5, c6⟩ := C.2 hc
    obtain ⟨q, rfl⟩ : ∃ x, q = x + 1 := ⟨q - 1, by omega⟩
    obtain ⟨s4, d1, d2, d3, d4⟩ := e_base (D := D) c4 (show ([] : List WF).length < 64 by decide) rfl
    refine ⟨s4, ?_, d2, r.tr (c5.tr d3), d4.trans c6⟩
    rw [pre, show mjN = ((mjN - j - 1) + 1) + j by omega, c1, d1]
    exact lE_end d2
end MJ82
