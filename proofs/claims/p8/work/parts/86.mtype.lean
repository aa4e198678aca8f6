/-! ===== the reference: a TYPE ===== -/
section MJ86
variable {tx : Nat → Int32} {n b d k o : Nat} {s : mjSt3} {W : List WF} {os : List Row} {ks : List Nat}
/-- readType -/
theorem m_type (h : MR tx n b s k o W os ks) (hm : ks.length < 790) : match pType (mTT tx n) k with
    | .inl e => ∃ s' v, mjF (d + 7) 277 [.ref 97] (mjW0 s) = some (some (.int v), mjW0 s') ∧ MZ (mTT tx n) b s' e os.length ∧ offE b s s'
    | .inr c' => ∃ s', mjF (d + 7) 277 [.ref 97] (mjW0 s) = some (some (.int (if (mTT tx n k).1 = 10 then -1 else nI (800 * b + ks.length))), mjW0 s') ∧ MR tx n b s' c' o W os (ks ++ (if (mTT tx n k).1 = 10 then [] else [k])) ∧ offE b s s' := by
  have A := h.at
  have S := v_srt A
  unfold pType
  by_cases h10 : (mTT tx n k).1 = 10
  · simp only [if_pos h10]
    obtain ⟨s1, e1, a1, r1, f1⟩ := m_next (d := d + 3) h (by rw [h10]; decide)
    refine ⟨s1, ?_, by rw [List.append_nil]; exact a1, r1⟩
    rw [e_277]
    unfold f_277 b_277_0
    rw [xV_97, v_type A, bI_s, i01, if_pos (show tyS (mTT tx n k).1 = true by rw [h10]; decide), xg_97_3, if_neg (fun q => absurd ((S.1.mp q).symm.trans h10) (by decide)), xV_97, e1, bN_s]
  · simp only [if_neg h10]
    by_cases h2 : (mTT tx n k).1 = 2
    · have kd := m_kind (d := d) h hm
      have pre : mjF (d + 7) 277 [.ref 97] (mjW0 s) = bI (mjF (d + 6) 272 [.ref 97] (mjW0 s)) (fun v5 hp6 => some (some (.int v5), hp6)) := by
        rw [e_277]
        unfold f_277 b_277_0
        rw [xV_97, v_type A, bI_s, i01, if_pos (show tyS (mTT tx n k).1 = true by rw [h2]; decide), xg_97_3, if_pos (S.1.mpr h2), xV_97]
      cases hd : pKind (mTT tx n) k with
      | inl e =>
        rw [hd] at kd
        obtain ⟨s1, v, e1, z1, r1⟩ := kd
        exact ⟨s1, v, by rw [pre, e1, bI_s], z1, r1.1⟩
      | inr c' =>
        rw [hd] at kd
        obtain ⟨s1, e1, a1, r1, f1⟩ := kd
        exact ⟨s1, by rw [pre, e1, bI_s], a1, r1⟩
    · have ep : pKind (mTT tx n) k = .inl (F2 (mTT tx n) k) := by
        unfold pKind
        rw [if_neg h2]
      rw [ep]
      refine ⟨_, -1, ?_, m_wz h, bS_off _ _⟩
      · rw [e_277]
        unfold f_277 b_277_0
        rw [xV_97, v_type A, bI_s, i01, if_neg (show ¬ tyS (mTT tx n k).1 = true by simp only [tyS, decide_eq_true_eq]; exact fun q => q.elim h10 h2), xV_97, m_wrong h, bN_s]
end MJ86
