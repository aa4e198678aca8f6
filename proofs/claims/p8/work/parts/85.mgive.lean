/-! ===== the reference: return E; say E; ===== -/
section MJ85
variable {tx : Nat → Int32} {n b D k o td N B : Nat} {s : mjSt3} {W : List WF} {os : List Row} {ks : List Nat} {S : List SF}
/-- behind a STATEMENT that is no BLOCK -/
def gSt (tx : Nat → Int32) (n b : Nat) (s : mjSt3) (u : mjU) (o : Nat) (os : List Row) (ks : List Nat) (S : List SF) (r : PY) : Prop := match r with
  | .inl e => ∃ s' x, u = some (none, mjW0 s') ∧ MZ (mTT tx n) b s' e x ∧ x ≤ 4710 ∧ offS b s s'
  | .inr z => ∃ s' W', u = some (none, mjW0 s') ∧ MR tx n b s' z.1 o W' (os ++ z.2.2.2.1) (ks ++ z.2.2.1) ∧ MS s' z.2.1 S ∧ offS b s s'
theorem m_give (h0 : (mTT tx n N).1 = 0) (hN : N ≤ 3000) (hB : B ≤ 1500) (ho : o ≤ 12) (hk : k < N) (hos : os.length ≤ B + k) (hks : 4 * ks.length ≤ k) (h : MR tx n b s k o W os ks) (m : MS s td S) (h1 : ¬ (mTT tx n k).1 = 1) (w : Int32) : gSt tx n b s (b_284_207 (mjF (D + 10)) 97 (mTT tx n k).2.1 w (mjW0 s)) o os ks S (pGive (mTT tx n) (N + 1) o k td (800 * b + ks.length) w) := by
  obtain ⟨s1, e1, a1, r1, f1⟩ := m_order (d := D + 9) h (by omega) 1 (mTT tx n k).2.1 0 0
  obtain ⟨s2, e2, a2, r2, f2⟩ := m_next (d := D + 7) a1 h1
  have L : (os ++ [((1 : Int32), (mTT tx n k).2.1, (0 : Int32), (0 : Int32), (0 : Int64))]).length = os.length + 1 := by rw [List.length_append]; rfl
  have C := m_E (D := D) h0 hN hB ho (show k + 1 ≤ N from hk) (by rw [L]; omega) (by omega) a2
  have pre : b_284_207 (mjF (D + 10)) 97 (mTT tx n k).2.1 w (mjW0 s) = bN (mjF (D + 10) 287 [.ref 97] (mjW0 s2)) (fun hp3 => gI hp3 97 12 61 (fun v4 => (if v4 = 0 then rV hp3 97 12 (bN (mjF (D + 10) 270 [.ref 97, .int (59 : Int32)] hp3) (fun hp5 => b_284_237 (mjF (D + 10)) 97 (mTT tx n k).2.1 w hp5)) else b_284_237 (mjF (D + 10)) 97 (mTT tx n k).2.1 w hp3))) := by
    unfold b_284_207
    rw [xV_97, e1, bN_s, xV_97, e2, bN_s, xV_97]
  have r12 := r1.tr r2
  have bad : ∀ e, (∃ s' x, mjF (D + 10) 287 [.ref 97] (mjW0 s2) = some (none, mjW0 s') ∧ MZ (mTT tx n) b s' e x ∧ x ≤ 4700 ∧ offE b s2 s') → gSt tx n b s (b_284_207 (mjF (D + 10)) 97 (mTT tx n k).2.1 w (mjW0 s)) o os ks S (.inl e) := by
    rintro e ⟨s3, x, e3, z3, hx, r3⟩
    obtain ⟨s4, e4, z4, r4, f4⟩ := z_order (d := D + 9) z3 (by omega) w (mTT tx n k).2.1 1 0
    refine ⟨s4, _, ?_, z4, by omega, offS_of (r12.tr (r3.tr r4))⟩
    rw [pre, e3, bN_s, xg_97_61, if_neg z3.n0]
    unfold b_284_237
    rw [xV_97, e4, bN_s]
  unfold pGive
  cases hd : prV (mTT tx n) (N + 1) o (k + 1) (800 * b + ks.length) with
  | inl e =>
    rw [hd] at C
    exact bad e C
  | inr y =>
    rw [hd] at C
    obtain ⟨y1, y2, y3⟩ : lnZ (k + 1) 0 y := prE_len 100 0 _ _ _ y (by omega) hd
    have hyN := (prE_le hN h0 ho (show k + 1 ≤ N from hk)).1 (by omega) hd
    by_cases hc : isCmp (mTT tx n y.1).1 = true
    · have n59 : ¬ (mTT tx n y.1).1 = 59 := fun e => by rw [e] at hc; exact absurd hc (by decide)
      simp only [if_neg n59]
      exact bad _ (C.1 hc)
    · obtain ⟨s3, e3, a3, r3, f3⟩ := C.2 hc
      have L3 : (os ++ [((1 : Int32), (mTT tx n k).2.1, (0 : Int32), (0 : Int32), (0 : Int64))] ++ y.2.2.2.1).length = os.length + 1 + y.2.2.2.1.length := by rw [List.length_append, L]
      by_cases h59 : (mTT tx n y.1).1 = 59
      · simp only [if_pos h59]
        obtain ⟨s4, e4, a4, r4, f4⟩ := m_take (d := D + 6) a3 (c := 59) (by decide) h59
        obtain ⟨s5, e5, a5, r5, f5⟩ := m_order (d := D + 9) a4 (by rw [L3]; omega) w (mTT tx n k).2.1 1 0
        have rr := r12.tr (r3.tr (r4.tr r5))
        refine ⟨s5, [], ?_, ?_, m.off rr, offS_of rr⟩
        · rw [pre, e3, bN_s, xg_97_61, a3.2.1.2.1, if_pos rfl, xV_97, e4, bN_s]
          unfold b_284_237
          rw [xV_97, e5, bN_s]
        · rw [List.append_assoc, List.append_assoc] at a5
          exact a5
      · simp only [if_neg h59]
        have e4 := m_takeB (d := D + 6) a3 (c := 59) (by decide) h59
        obtain ⟨s5, e5, z5, r5, f5⟩ := z_order (d := D + 9) (m_wz a3) (by rw [L3]; omega) w (mTT tx n k).2.1 1 0
        refine ⟨s5, _, ?_, z5, by rw [L3]; omega, offS_of (r12.tr (r3.tr ((bS_off _ _).tr r5)))⟩
        rw [pre, e3, bN_s, xg_97_61, a3.2.1.2.1, if_pos rfl, xV_97, e4, bN_s]
        unfold b_284_237
        rw [xV_97, e5, bN_s]
end MJ85
