/-! ===== the reference's open blocks ===== -/
/-- sort, jump, top of an open block -/
abbrev SF : Type := Int32 × Int32 × Int32
/-- td told, S open -/
def MS (s : mjSt3) (td : Nat) (S : List SF) : Prop := s.1 97 67 = nI td ∧ s.1 97 71 = nI S.length ∧ ∀ i f, S[i]? = some f → s.1 148 i = f.1 ∧ s.1 149 i = f.2.1 ∧ s.1 150 i = f.2.2
section MJ83
variable {tx : Nat → Int32} {n b d k o td : Nat} {s s' : mjSt3} {W : List WF} {os : List Row} {ks : List Nat} {S : List SF}
theorem MS.off (h : MS s td S) (r : offE b s s') : MS s' td S := by
  obtain ⟨h1, h2, h3⟩ := h
  have q : ∀ x i, ¬ chE b x i → s'.1 x i = s.1 x i := r.1
  refine ⟨?_, ?_, fun i f hf => ?_⟩
  · rw [q 97 67 (by unfold chE; omega), h1]
  · rw [q 97 71 (by unfold chE; omega), h2]
  · rw [q 148 i (by unfold chE; omega), q 149 i (by unfold chE; omega), q 150 i (by unfold chE; omega)]
    exact h3 i f hf
/-- toHere -/
theorem m_here (h : MR tx n b s k o W os ks) (hl : os.length < 4990) {i : Nat} {r : Row} (hr : os[i]? = some r) : ∃ s', mjF (d + 1) 283 [.ref 97, .int (nI i)] (mjW0 s) = some (none, mjW0 s') ∧ MR tx n b s' k o W (os.set i (r.1, r.2.1, nI os.length, r.2.2.2)) ks ∧ offE b s s' := by
  have hb := h.2.1.1
  have hi := (List.getElem?_eq_some_iff.mp hr).1
  refine ⟨_, ?_, h.setR (v := nI os.length) hr (Or.inr (Or.inr (Or.inl ⟨rfl, rfl⟩))), setR_off (by omega) (by omega)⟩
  rw [e_283]
  unfold f_283 b_283_0
  rw [xg_97_56, xg_97_63, h.2.1.2.2.1, xg_97_33, xg_97_63, h.2.1.2.2.1, xa_122, if_pos (mj_in_nI (by omega) (by decide)), nI_clamp (by omega), h.2.2.2.1.1, idx5 hb, xs_145, if_pos (mj_in_nI (by omega) (by decide)), nI_clamp (by omega)]
end MJ83
