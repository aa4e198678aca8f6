/-! ===== the reference: order, waits, opens, closes ===== -/
/-- the state behind an order -/
def orS (s : mjSt3) (i b m : Nat) (w p a c : Int32) (nm : Int64) : mjSt3 := uI (uL (uI (uI (uI (uI s 143 (upd (s.1 143) i w)) 144 (upd (s.1 144) i p)) 145 (upd (s.1 145) i a)) 146 (upd (s.1 146) i c)) 147 (vp_updL (s.2.1 147) i nm)) 122 (upd (s.1 122) b (nI (m + 1)))
section MJ68
variable {tx : Nat → Int32} {n b d k o : Nat} {s s' : mjSt3} {W : List WF} {os : List Row} {ks : List Nat}
theorem orS_at {i m : Nat} {w p a c : Int32} {nm : Int64} : (orS s i b m w p a c nm).1 143 = upd (s.1 143) i w ∧ (orS s i b m w p a c nm).1 144 = upd (s.1 144) i p ∧ (orS s i b m w p a c nm).1 145 = upd (s.1 145) i a ∧ (orS s i b m w p a c nm).1 146 = upd (s.1 146) i c ∧ (orS s i b m w p a c nm).2.1 147 = vp_updL (s.2.1 147) i nm ∧ (orS s i b m w p a c nm).1 122 = upd (s.1 122) b (nI (m + 1)) ∧ (∀ h, ¬ (143 ≤ h ∧ h ≤ 146) → ¬ h = 122 → (orS s i b m w p a c nm).1 h = s.1 h) ∧ (∀ h, ¬ h = 147 → (orS s i b m w p a c nm).2.1 h = s.2.1 h) ∧ (orS s i b m w p a c nm).2.2 = s.2.2 := by
  unfold orS
  refine ⟨?_, ?_, ?_, ?_, ?_, ?_, fun h x y => ?_, fun h x => ?_, rfl⟩
  · rw [uI_ne _ _ _ _ (by decide), uL_i, uI_ne _ _ _ _ (by decide), uI_ne _ _ _ _ (by decide), uI_ne _ _ _ _ (by decide), uI_same]
  · rw [uI_ne _ _ _ _ (by decide), uL_i, uI_ne _ _ _ _ (by decide), uI_ne _ _ _ _ (by decide), uI_same]
  · rw [uI_ne _ _ _ _ (by decide), uL_i, uI_ne _ _ _ _ (by decide), uI_same]
  · rw [uI_ne _ _ _ _ (by decide), uL_i, uI_same]
  · rw [uI_l, uL_same]
  · rw [uI_same]
  · rw [uI_ne _ _ _ _ y, uL_i, uI_ne _ _ _ _ (by omega), uI_ne _ _ _ _ (by omega), uI_ne _ _ _ _ (by omega), uI_ne _ _ _ _ (by omega)]
  · rw [uI_l, uL_ne _ _ _ _ x]; rfl
theorem orS_off {m : Nat} {w p a c : Int32} {nm : Int64} (hm : m < 5000) : offE b s (orS s (5000 * b + m) b m w p a c nm) := by
  have f := orS_at (s := s) (i := 5000 * b + m) (b := b) (m := m) (w := w) (p := p) (a := a) (c := c) (nm := nm)
  refine ⟨fun h j q => ?_, fun h j q => ?_, f.2.2.2.2.2.2.2.2⟩
  · by_cases e1 : h = 143
    · rw [e1, f.1]; exact if_neg (fun e => q (by unfold chE; omega))
    by_cases e2 : h = 144
    · rw [e2, f.2.1]; exact if_neg (fun e => q (by unfold chE; omega))
    by_cases e3 : h = 145
    · rw [e3, f.2.2.1]; exact if_neg (fun e => q (by unfold chE; omega))
    by_cases e4 : h = 146
    · rw [e4, f.2.2.2.1]; exact if_neg (fun e => q (by unfold chE; omega))
    by_cases e5 : h = 122
    · rw [e5, f.2.2.2.2.2.1]; exact if_neg (fun e => q (by unfold chE; omega))
    rw [f.2.2.2.2.2.2.1 h (by omega) e5]
  · by_cases e1 : h = 147
    · rw [e1, f.2.2.2.2.1]; exact if_neg (fun e => q (by unfold chEL; omega))
    rw [f.2.2.2.2.2.2.2.1 h e1]
theorem MR.order (h : MR tx n b s k o W os ks) {w p a c : Int32} {nm : Int64} : MR tx n b (orS s (5000 * b + os.length) b os.length w p a c nm) k o W (os ++ [(w, p, a, c, nm)]) ks := by
  obtain ⟨⟨a1, a2⟩, ⟨b1, b2, b3, b4⟩, ⟨c1, c2⟩, ⟨d1, d2⟩, e1, e2⟩ := h
  have f := orS_at (s := s) (i := 5000 * b + os.length) (b := b) (m := os.length) (w := w) (p := p) (a := a) (c := c) (nm := nm)
  have q : ∀ h, ¬ (143 ≤ h ∧ h ≤ 146) → ¬ h = 122 → (orS s (5000 * b + os.length) b os.length w p a c nm).1 h = s.1 h := f.2.2.2.2.2.2.1
  have l : ∀ h, ¬ h = 147 → (orS s (5000 * b + os.length) b os.length w p a c nm).2.1 h = s.2.1 h := f.2.2.2.2.2.2.2.1
  have e97 := q 97 (by omega) (by omega)
  have l97 := l 97 (by omega)
  refine ⟨⟨?_, ?_⟩, ⟨b1, ?_, ?_, ?_⟩, ⟨?_, fun i f hf => ?_⟩, ⟨?_, fun i x hx => ?_⟩, ?_, fun i t ht => ?_⟩
  · unfold MB at a1 ⊢
    rw [e97, q 98 (by omega) (by omega), l 99 (by omega)]; exact a1
  · unfold MT at a2 ⊢
    rw [e97, l97]; exact a2
  · rw [e97, b2]
  · rw [e97, b3]
  · rw [e97, b4]
  · rw [e97, c1]
  · unfold Wt
    rw [q 151 (by omega) (by omega), q 152 (by omega) (by omega), q 153 (by omega) (by omega), q 154 (by omega) (by omega), q 182 (by omega) (by omega)]
    exact c2 i f hf
  · rw [f.2.2.2.2.2.1, up_same, List.length_append]; rfl
  · unfold Rw
    rw [f.1, f.2.1, f.2.2.1, f.2.2.2.1, f.2.2.2.2.1]
    simp only [upd_g, updL_g]
    by_cases hl : i < os.length
    · rw [List.getElem?_append_left hl] at hx
      have ne : ¬ 5000 * b + i = 5000 * b + os.length := by omega
      simp only [if_neg ne]
      exact d2 i x hx
    · have hx' := (List.getElem?_eq_some_iff.mp hx).1
      rw [List.length_append, List.length_singleton] at hx'
      have e : i = os.length := by omega
      subst e
      rw [List.getElem?_append_right (Nat.le_refl _), Nat.sub_self] at hx
      have e2 : (w, p, a, c, nm) = x := by simpa using hx
      subst e2
      exact ⟨if_pos rfl, if_pos rfl, if_pos rfl, if_pos rfl, if_pos rfl⟩
  · rw [q 121 (by omega) (by omega), e1]
  · unfold Kd
    rw [l 136 (by omega), q 137 (by omega) (by omega), q 138 (by omega) (by omega), l 140 (by omega), q 141 (by omega) (by omega)]
    exact e2 i t ht
theorem idx5 {b m : Nat} (hb : b ≤ 1) : (5000 : Int32) * nI b + nI m = nI (5000 * b + m) := by
  rw [show (5000 : Int32) = nI 5000 from rfl, pk_mul, nI_add]
theorem m_order (h : MR tx n b s k o W os ks) (hl : os.length < 4990) (w p a c : Int32) : ∃ s', mjF (d + 1) 281 [.ref 97, .int w, .int p, .int a, .int c] (mjW0 s) = some (none, mjW0 s') ∧ MR tx n b s' k o W (os ++ [(w, p, a, c, 0)]) ks ∧ offE b s s' ∧ s'.1 97 = s.1 97 := by
  have hb := h.2.1.1
  have f := orS_at (s := s) (i := 5000 * b + os.length) (b := b) (m := os.length) (w := w) (p := p) (a := a) (c := c) (nm := 0)
  refine ⟨_, ?_, h.order (w := w) (p := p) (a := a) (c := c) (nm := 0), orS_off (by omega), f.2.2.2.2.2.2.1 97 (by omega) (by omega)⟩
  have hB := h.2.1.2.2.1
  have hO := h.2.2.2.1.1
  rw [e_281]
  unfold f_281 b_281_0
  rw [xg_97_63, hB, xg_97_33, xg_97_63, hB, xa_122, if_pos (mj_in_nI (by omega) (by decide)), nI_clamp (by omega), hO, idx5 hb, xg_97_54, xs_143, if_pos (mj_in_nI (by omega) (by decide)), nI_clamp (by omega), xg_97_55, xs_144, if_pos (mj_in_nI (by omega) (by decide)), nI_clamp (by omega), uI_ne _ _ _ _ (by decide), xg_97_56, xs_145, if_pos (mj_in_nI (by omega) (by decide)), nI_clamp (by omega), uI_ne _ _ _ _ (by decide), uI_ne _ _ _ _ (by decide), xg_97_57, xs_146, if_pos (mj_in_nI (by omega) (by decide)), nI_clamp (by omega), uI_ne _ _ _ _ (by decide), uI_ne _ _ _ _ (by decide), uI_ne _ _ _ _ (by decide), xg_97_58, xs_147, if_pos (mj_in_nI (by omega) (by decide)), nI_clamp (by omega), xg_97_33, xg_97_63, uL_i, uI_ne _ _ _ _ (by decide), uI_ne _ _ _ _ (by decide), uI_ne _ _ _ _ (by decide), uI_ne _ _ _ _ (by decide), hB, xa_122, if_pos (mj_in_nI (by omega) (by decide)), nI_clamp (by omega), uL_i, uI_ne _ _ _ _ (by decide), uI_ne _ _ _ _ (by decide), uI_ne _ _ _ _ (by decide), uI_ne _ _ _ _ (by decide), hO, nI_1, xs_122, if_pos (mj_in_nI (by omega) (by decide)), nI_clamp (by omega), uL_i, uI_ne _ _ _ _ (by decide), uI_ne _ _ _ _ (by decide), uI_ne _ _ _ _ (by decide), uI_ne _ _ _ _ (by decide)]
  rfl
theorem orS_nm {i m : Nat} {w p a c : Int32} {nm : Int64} : uL (orS s i b m w p a c 0) 147 (vp_updL ((orS s i b m w p a c 0).2.1 147) i nm) = orS s i b m w p a c nm := by
  rw [orS_at.2.2.2.2.1, vupd_upd]
  unfold orS
  rw [← uI_uL, uL_uL]
theorem m_orderName (h : MR tx n b s k o W os ks) (hl : os.length < 4990) (w p a : Int32) (nm : Int64) : ∃ s', mjF (d + 2) 286 [.ref 97, .int w, .int p, .long nm, .int a] (mjW0 s) = some (none, mjW0 s') ∧ MR tx n b s' k o W (os ++ [(w, p, a, 0, nm)]) ks ∧ offE b s s' ∧ s'.1 97 = s.1 97 := by
  have hb := h.2.1.1
  have f := orS_at (s := s) (i := 5000 * b + os.length) (b := b) (m := os.length) (w := w) (p := p) (a := a) (c := 0) (nm := nm)
  have f0 := orS_at (s := s) (i := 5000 * b + os.length) (b := b) (m := os.length) (w := w) (p := p) (a := a) (c := 0) (nm := 0)
  refine ⟨_, ?_, h.order (w := w) (p := p) (a := a) (c := 0) (nm := nm), orS_off (by omega), f.2.2.2.2.2.2.1 97 (by omega) (by omega)⟩
  have hB := h.2.1.2.2.1
  have hO := h.2.2.2.1.1
  have e : mjF (d + 1) 281 [.ref 97, .int w, .int p, .int a, .int 0] (mjW0 s) = some (none, mjW0 (orS s (5000 * b + os.length) b os.length w p a 0 0)) := by
    rw [e_281]
    unfold f_281 b_281_0
    rw [xg_97_63, hB, xg_97_33, xg_97_63, hB, xa_122, if_pos (mj_in_nI (by omega) (by decide)), nI_clamp (by omega), hO, idx5 hb, xg_97_54, xs_143, if_pos (mj_in_nI (by omega) (by decide)), nI_clamp (by omega), xg_97_55, xs_144, if_pos (mj_in_nI (by omega) (by decide)), nI_clamp (by omega), uI_ne _ _ _ _ (by decide), xg_97_56, xs_145, if_pos (mj_in_nI (by omega) (by decide)), nI_clamp (by omega), uI_ne _ _ _ _ (by decide), uI_ne _ _ _ _ (by decide), xg_97_57, xs_146, if_pos (mj_in_nI (by omega) (by decide)), nI_clamp (by omega), uI_ne _ _ _ _ (by decide), uI_ne _ _ _ _ (by decide), uI_ne _ _ _ _ (by decide), xg_97_58, xs_147, if_pos (mj_in_nI (by omega) (by decide)), nI_clamp (by omega), xg_97_33, xg_97_63, uL_i, uI_ne _ _ _ _ (by decide), uI_ne _ _ _ _ (by decide), uI_ne _ _ _ _ (by decide), uI_ne _ _ _ _ (by decide), hB, xa_122, if_pos (mj_in_nI (by omega) (by decide)), nI_clamp (by omega), uL_i, uI_ne _ _ _ _ (by decide), uI_ne _ _ _ _ (by decide), uI_ne _ _ _ _ (by decide), uI_ne _ _ _ _ (by decide), hO, nI_1, xs_122, if_pos (mj_in_nI (by omega) (by decide)), nI_clamp (by omega), uL_i, uI_ne _ _ _ _ (by decide), uI_ne _ _ _ _ (by decide), uI_ne _ _ _ _ (by decide), uI_ne _ _ _ _ (by decide)]
    rfl
  have e97 : (orS s (5000 * b + os.length) b os.length w p a 0 0).1 97 = s.1 97 := f0.2.2.2.2.2.2.1 97 (by omega) (by omega)
  rw [e_286]
  unfold f_286 b_286_0
  rw [xV_97, e, bN_s, xg_97_58, xg_97_63, e97, hB, xg_97_33, xg_97_63, e97, hB, xa_122, if_pos (mj_in_nI (by omega) (by decide)), nI_clamp (by omega), f0.2.2.2.2.2.1, up_same, idx5 hb, show nI (5000 * b + (os.length + 1)) - (1 : Int32) = nI (5000 * b + os.length) from nI_pred (5000 * b + os.length), xs_147, if_pos (mj_in_nI (by omega) (by decide)), nI_clamp (by omega), orS_nm]
/-- something waits -/
def waS (s : mjSt3) (m : Nat) (w p a c : Int32) : mjSt3 := uI (uI (uI (uI (uI s 151 (upd (s.1 151) m w)) 152 (upd (s.1 152) m p)) 153 (upd (s.1 153) m a)) 154 (upd (s.1 154) m c)) 97 (upd (s.1 97) 76 (nI (m + 1)))
theorem waS_at {m : Nat} {w p a c : Int32} : (waS s m w p a c).1 151 = upd (s.1 151) m w ∧ (waS s m w p a c).1 152 = upd (s.1 152) m p ∧ (waS s m w p a c).1 153 = upd (s.1 153) m a ∧ (waS s m w p a c).1 154 = upd (s.1 154) m c ∧ (waS s m w p a c).1 97 = upd (s.1 97) 76 (nI (m + 1)) ∧ (∀ h, ¬ (151 ≤ h ∧ h ≤ 154) → ¬ h = 97 → (waS s m w p a c).1 h = s.1 h) ∧ (waS s m w p a c).2 = s.2 := by
  unfold waS
  refine ⟨?_, ?_, ?_, ?_, ?_, fun h x y => ?_, rfl⟩
  · rw [uI_ne _ _ _ _ (by decide), uI_ne _ _ _ _ (by decide), uI_ne _ _ _ _ (by decide), uI_ne _ _ _ _ (by decide), uI_same]
  · rw [uI_ne _ _ _ _ (by decide), uI_ne _ _ _ _ (by decide), uI_ne _ _ _ _ (by decide), uI_same]
  · rw [uI_ne _ _ _ _ (by decide), uI_ne _ _ _ _ (by decide), uI_same]
  · rw [uI_ne _ _ _ _ (by decide), uI_same]
  · rw [uI_same]
  · rw [uI_ne _ _ _ _ y, uI_ne _ _ _ _ (by omega), uI_ne _ _ _ _ (by omega), uI_ne _ _ _ _ (by omega), uI_ne _ _ _ _ (by omega)]
theorem m_waits (h : MR tx n b s k o W os ks) (hl : W.length < 64) (w p a c : Int32) : ∃ s' x, mjF (d + 1) 288 [.ref 97, .int w, .int p, .int a, .int c] (mjW0 s) = some (none, mjW0 s') ∧ MR tx n b s' k o (W ++ [(w, p, a, c, x)]) os ks ∧ offE b s s' ∧ s'.1 97 77 = s.1 97 77 := by
  have hW := h.2.2.1.1
  have f := waS_at (s := s) (m := W.length) (w := w) (p := p) (a := a) (c := c)
  refine ⟨waS s W.length w p a c, s.1 182 W.length, ?_, ?_, ?_, ?_⟩
  · rw [e_288]
    unfold f_288 b_288_0
    rw [xg_97_72, xg_97_76, hW, xs_151, if_pos (mj_in_nI hl (by decide)), nI_clamp (by omega), xg_97_73, xg_97_76, uI_ne _ _ _ _ (by decide), hW, xs_152, if_pos (mj_in_nI hl (by decide)), nI_clamp (by omega), uI_ne _ _ _ _ (by decide), xg_97_74, xg_97_76, uI_ne _ _ _ _ (by decide), uI_ne _ _ _ _ (by decide), hW, xs_153, if_pos (mj_in_nI hl (by decide)), nI_clamp (by omega), uI_ne _ _ _ _ (by decide), uI_ne _ _ _ _ (by decide), xg_97_75, xg_97_76, uI_ne _ _ _ _ (by decide), uI_ne _ _ _ _ (by decide), uI_ne _ _ _ _ (by decide), hW, xs_154, if_pos (mj_in_nI hl (by decide)), nI_clamp (by omega), uI_ne _ _ _ _ (by decide), uI_ne _ _ _ _ (by decide), uI_ne _ _ _ _ (by decide), xg_97_76, uI_ne _ _ _ _ (by decide), uI_ne _ _ _ _ (by decide), uI_ne _ _ _ _ (by decide), uI_ne _ _ _ _ (by decide), hW, nI_1, xp_97_76, uI_ne _ _ _ _ (by decide), uI_ne _ _ _ _ (by decide), uI_ne _ _ _ _ (by decide), uI_ne _ _ _ _ (by decide)]
    rfl
  · obtain ⟨⟨a1, a2⟩, ⟨b1, b2, b3, b4⟩, ⟨c1, c2⟩, ⟨d1, d2⟩, e1, e2⟩ := h
    have q : ∀ h, ¬ (151 ≤ h ∧ h ≤ 154) → ¬ h = 97 → (waS s W.length w p a c).1 h = s.1 h := f.2.2.2.2.2.1
    have g : ∀ j, ¬ j = 76 → (waS s W.length w p a c).1 97 j = s.1 97 j := fun j e => by rw [f.2.2.2.2.1]; exact if_neg e
    have l := f.2.2.2.2.2.2
    refine ⟨⟨?_, ?_⟩, ⟨b1, ?_, ?_, ?_⟩, ⟨?_, fun i x hx => ?_⟩, ⟨?_, fun i x hx => ?_⟩, ?_, fun i t ht => ?_⟩
    · unfold MB at a1 ⊢
      rw [g 2 (by omega), q 98 (by omega) (by omega), l]; exact a1
    · unfold MT at a2 ⊢
      rw [g 3 (by omega), g 4 (by omega), g 5 (by omega), g 6 (by omega), l]; exact a2
    · rw [g 61 (by omega), b2]
    · rw [g 63 (by omega), b3]
    · rw [g 64 (by omega), b4]
    · rw [f.2.2.2.2.1, up_same, List.length_append]; rfl
    · unfold Wt
      rw [f.1, f.2.1, f.2.2.1, f.2.2.2.1, q 182 (by omega) (by omega)]
      simp only [upd_g]
      by_cases hl : i < W.length
      · rw [List.getElem?_append_left hl] at hx
        have ne : ¬ i = W.length := by omega
        simp only [if_neg ne]
        exact c2 i x hx
      · have hx' := (List.getElem?_eq_some_iff.mp hx).1
        rw [List.length_append, List.length_singleton] at hx'
        have e : i = W.length := by omega
        subst e
        rw [List.getElem?_append_right (Nat.le_refl _), Nat.sub_self] at hx
        have e2 : (w, p, a, c, s.1 182 W.length) = x := by simpa using hx
        subst e2
        exact ⟨if_pos rfl, if_pos rfl, if_pos rfl, if_pos rfl, rfl⟩
    · rw [q 122 (by omega) (by omega), d1]
    · unfold Rw
      rw [q 143 (by omega) (by omega), q 144 (by omega) (by omega), q 145 (by omega) (by omega), q 146 (by omega) (by omega), l]
      exact d2 i x hx
    · rw [q 121 (by omega) (by omega), e1]
    · unfold Kd
      rw [q 137 (by omega) (by omega), q 138 (by omega) (by omega), q 141 (by omega) (by omega), l]
      exact e2 i t ht
  · refine offG_of (fun h j z => ?_) f.2.2.2.2.2.2
    by_cases e : 151 ≤ h ∧ h ≤ 154
    · exact absurd (by unfold chE; omega) z
    by_cases e2 : h = 97
    · rw [e2, f.2.2.2.2.1]; exact if_neg (fun q => z (by unfold chE; omega))
    rw [f.2.2.2.2.2.1 h e e2]
  · rw [f.2.2.2.2.1]; exact if_neg (by decide)
theorem w97_off {j : Nat} {v : Int32} (hj : j = 61 ∨ j = 62 ∨ j = 64 ∨ j = 76 ∨ j = 77) : offE b s (uI s 97 (upd (s.1 97) j v)) := offG.w (by unfold chE; omega)
theorem bS_off (x y : Int32) : offE b s (bS s x y) := by
  have f := bS_at (s := s) x y
  refine offG_of (fun h j z => ?_) f.2.2.2.2
  by_cases e : h = 97
  · subst e
    exact f.2.2.1 j (fun q => z (by unfold chE; omega)) (fun q => z (by unfold chE; omega))
  · rw [f.2.2.2.1 h e]
end MJ68
