/-! ===== the reference: orders and waiting things that are changed ===== -/
section MJ76
variable {tx : Nat → Int32} {n b D k o q l m : Nat} {s s' : mjSt3} {W : List WF} {f : WF} {os : List Row} {ks : List Nat}
/-- a row among 143 to 146 is changed at an order's place -/
theorem MR.setR (h : MR tx n b s k o W os ks) {i x : Nat} {v : Int32} {r r' : Row} (hr : os[i]? = some r) (hx : (x = 143 ∧ r' = (v, r.2)) ∨ (x = 144 ∧ r' = (r.1, v, r.2.2)) ∨ (x = 145 ∧ r' = (r.1, r.2.1, v, r.2.2.2)) ∨ (x = 146 ∧ r' = (r.1, r.2.1, r.2.2.1, v, r.2.2.2.2))) : MR tx n b (uI s x (upd (s.1 x) (5000 * b + i) v)) k o W (os.set i r') ks := by
  obtain ⟨⟨a1, a2⟩, ⟨b1, b2, b3, b4⟩, ⟨c1, c2⟩, ⟨d1, d2⟩, e1, e2⟩ := h
  have hx' : 143 ≤ x ∧ x ≤ 146 := by omega
  have q : ∀ h, ¬ h = x → (uI s x (upd (s.1 x) (5000 * b + i) v)).1 h = s.1 h := fun h e => uI_ne _ _ _ _ e
  refine ⟨⟨?_, ?_⟩, ⟨b1, ?_, ?_, ?_⟩, ⟨?_, fun i f hf => ?_⟩, ⟨?_, fun j y hy => ?_⟩, ?_, fun i t ht => ?_⟩
  · unfold MB at a1 ⊢
    rw [q 97 (by omega), q 98 (by omega)]; exact a1
  · unfold MT at a2 ⊢
    rw [q 97 (by omega)]; exact a2
  · rw [q 97 (by omega), b2]
  · rw [q 97 (by omega), b3]
  · rw [q 97 (by omega), b4]
  · rw [q 97 (by omega), c1]
  · unfold Wt
    rw [q 151 (by omega), q 152 (by omega), q 153 (by omega), q 154 (by omega), q 182 (by omega)]
    exact c2 i f hf
  · rw [q 122 (by omega), d1, List.length_set]
  · have hil := (List.getElem?_eq_some_iff.mp hr).1
    by_cases ej : j = i
    · subst ej
      rw [List.getElem?_set_self hil] at hy
      have ey : r' = y := by simpa using hy
      subst ey
      obtain ⟨p1, p2, p3, p4, p5⟩ := d2 j r hr
      rcases hx with ⟨hx, e⟩ | ⟨hx, e⟩ | ⟨hx, e⟩ | ⟨hx, e⟩
      · subst hx e
        exact ⟨by rw [uI_same, up_same], by rw [uI_ne _ _ _ _ (by decide)]; exact p2, by rw [uI_ne _ _ _ _ (by decide)]; exact p3, by rw [uI_ne _ _ _ _ (by decide)]; exact p4, p5⟩
      · subst hx e
        exact ⟨by rw [uI_ne _ _ _ _ (by decide)]; exact p1, by rw [uI_same, up_same], by rw [uI_ne _ _ _ _ (by decide)]; exact p3, by rw [uI_ne _ _ _ _ (by decide)]; exact p4, p5⟩
      · subst hx e
        exact ⟨by rw [uI_ne _ _ _ _ (by decide)]; exact p1, by rw [uI_ne _ _ _ _ (by decide)]; exact p2, by rw [uI_same, up_same], by rw [uI_ne _ _ _ _ (by decide)]; exact p4, p5⟩
      · subst hx e
        exact ⟨by rw [uI_ne _ _ _ _ (by decide)]; exact p1, by rw [uI_ne _ _ _ _ (by decide)]; exact p2, by rw [uI_ne _ _ _ _ (by decide)]; exact p3, by rw [uI_same, up_same], p5⟩
    · rw [List.getElem?_set_ne (fun e => ej e.symm)] at hy
      obtain ⟨p1, p2, p3, p4, p5⟩ := d2 j y hy
      have g : ∀ h, (uI s x (upd (s.1 x) (5000 * b + i) v)).1 h (5000 * b + j) = s.1 h (5000 * b + j) := by
        intro h
        rw [uI_g]
        by_cases e : h = x
        · rw [if_pos e, upd_g, if_neg (by omega), e]
        · rw [if_neg e]
      exact ⟨(g 143).trans p1, (g 144).trans p2, (g 145).trans p3, (g 146).trans p4, p5⟩
  · rw [q 121 (by omega), e1]
  · unfold Kd
    rw [q 137 (by omega), q 138 (by omega), q 141 (by omega)]
    exact e2 i t ht
/-- many or the argument's place of what waits on top -/
theorem MR.setW (h : MR tx n b s k o (W ++ [f]) os ks) {x : Nat} {v : Int32} {f' : WF} (hx : (x = 154 ∧ f' = (f.1, f.2.1, f.2.2.1, v, f.2.2.2.2)) ∨ (x = 182 ∧ f' = (f.1, f.2.1, f.2.2.1, f.2.2.2.1, v))) : MR tx n b (uI s x (upd (s.1 x) W.length v)) k o (W ++ [f']) os ks := by
  have t := h.top
  obtain ⟨⟨a1, a2⟩, ⟨b1, b2, b3, b4⟩, ⟨c1, c2⟩, ⟨d1, d2⟩, e1, e2⟩ := h
  have hx' : x = 154 ∨ x = 182 := by omega
  have q : ∀ h, ¬ h = x → (uI s x (upd (s.1 x) W.length v)).1 h = s.1 h := fun h e => uI_ne _ _ _ _ e
  refine ⟨⟨?_, ?_⟩, ⟨b1, ?_, ?_, ?_⟩, ⟨?_, fun j y hy => ?_⟩, ⟨?_, fun j y hy => ?_⟩, ?_, fun i t ht => ?_⟩
  · unfold MB at a1 ⊢
    rw [q 97 (by omega), q 98 (by omega)]; exact a1
  · unfold MT at a2 ⊢
    rw [q 97 (by omega)]; exact a2
  · rw [q 97 (by omega), b2]
  · rw [q 97 (by omega), b3]
  · rw [q 97 (by omega), b4]
  · rw [q 97 (by omega), c1, List.length_append, List.length_append]; rfl
  · by_cases hl : j < W.length
    · rw [List.getElem?_append_left hl] at hy
      have := c2 j y (by rw [List.getElem?_append_left hl]; exact hy)
      have g : ∀ h, (uI s x (upd (s.1 x) W.length v)).1 h j = s.1 h j := by
        intro h
        rw [uI_g]
        by_cases e : h = x
        · rw [if_pos e, upd_g, if_neg (by omega), e]
        · rw [if_neg e]
      exact ⟨(g 151).trans this.1, (g 152).trans this.2.1, (g 153).trans this.2.2.1, (g 154).trans this.2.2.2.1, (g 182).trans this.2.2.2.2⟩
    · have hy' := (List.getElem?_eq_some_iff.mp hy).1
      rw [List.length_append, List.length_singleton] at hy'
      have e : j = W.length := by omega
      subst e
      rw [List.getElem?_append_right (Nat.le_refl _), Nat.sub_self] at hy
      have ey : f' = y := by simpa using hy
      subst ey
      obtain ⟨⟨p1, p2, p3, p4, p5⟩, _⟩ := t
      rcases hx with ⟨hx, e⟩ | ⟨hx, e⟩
      · subst hx e
        exact ⟨by rw [uI_ne _ _ _ _ (by decide)]; exact p1, by rw [uI_ne _ _ _ _ (by decide)]; exact p2, by rw [uI_ne _ _ _ _ (by decide)]; exact p3, by rw [uI_same, up_same], by rw [uI_ne _ _ _ _ (by decide)]; exact p5⟩
      · subst hx e
        exact ⟨by rw [uI_ne _ _ _ _ (by decide)]; exact p1, by rw [uI_ne _ _ _ _ (by decide)]; exact p2, by rw [uI_ne _ _ _ _ (by decide)]; exact p3, by rw [uI_ne _ _ _ _ (by decide)]; exact p4, by rw [uI_same, up_same]⟩
  · rw [q 122 (by omega), d1]
  · unfold Rw
    rw [q 143 (by omega), q 144 (by omega), q 145 (by omega), q 146 (by omega)]
    exact d2 j y hy
  · rw [q 121 (by omega), e1]
  · unfold Kd
    rw [q 137 (by omega), q 138 (by omega), q 141 (by omega)]
    exact e2 i t ht
theorem setR_off {i x : Nat} {v : Int32} (hx : 143 ≤ x ∧ x ≤ 146) (hi : i < 5000) : offE b s (uI s x (upd (s.1 x) (5000 * b + i) v)) := offG.w (by unfold chE; omega)
theorem setW_off {i x : Nat} {v : Int32} (hx : x = 154 ∨ x = 182) : offE b s (uI s x (upd (s.1 x) i v)) := offG.w (by unfold chE; omega)
/-- beginArgument: the call waits on top -/
theorem m_beginA {y : WF} (h : MR tx n b s k o (W ++ [y]) os ks) (hl : W.length < 64) {j : Nat} (hy : y.2.2.2.1 = nI j) (hj : j ≤ 6) : (isVal (mTT tx n k).1 = true → j < 6 → ∃ s', mjF (D + 3) 294 [.ref 97, .int (nI W.length)] (mjW0 s) = some (some (.int 1), mjW0 s') ∧ MR tx n b s' k o (W ++ [(y.1, y.2.1, y.2.2.1, nI (j + 1), (mTT tx n k).2.1)]) os ks ∧ offE b s s' ∧ s'.1 97 77 = s.1 97 77) ∧ (isVal (mTT tx n k).1 = false → ∃ s', mjF (D + 3) 294 [.ref 97, .int (nI W.length)] (mjW0 s) = some (some (.int 1), mjW0 s') ∧ MZ (mTT tx n) b s' (F2 (mTT tx n) k) os.length ∧ offE b s s') ∧ (isVal (mTT tx n k).1 = true → j = 6 → ∃ s', mjF (D + 3) 294 [.ref 97, .int (nI W.length)] (mjW0 s) = some (some (.int 1), mjW0 s') ∧ MZ (mTT tx n) b s' (3, k) os.length ∧ offE b s s') := by
  have t := h.top
  have A := h.at
  have p4 : s.1 154 W.length = nI j := t.1.2.2.2.1.trans hy
  have t34 : ∀ z : mjSt3, z.1 154 W.length = nI j → ∀ a4 : Int32, z.1 97 4 = a4 → b_294_34 (mjF (D + 2)) 97 (nI W.length) (mjW0 z) = some (some (.int 1), mjW0 (uI (uI z 154 (upd (z.1 154) W.length (nI (j + 1)))) 182 (upd (z.1 182) W.length a4))) := by
    intro z hz a4 h4
    unfold b_294_34
    rw [xg_97_75, xa_154, if_pos (mj_in_nI hl (by decide)), nI_clamp (by omega), hz, nI_1, xs_154, if_pos (mj_in_nI hl (by decide)), nI_clamp (by omega), xg_97_128, xg_97_4, uI_ne _ _ _ _ (show ¬ 97 = 154 by decide), h4, xs_182, if_pos (mj_in_nI hl (by decide)), nI_clamp (by omega), uI_ne _ _ _ _ (show ¬ 182 = 154 by decide)]
  have zz : ∀ (e : Nat × Nat), (e.1 = 1 ∨ e.1 = 2 ∨ e.1 = 3) → ∃ s', b_294_34 (mjF (D + 2)) 97 (nI W.length) (mjW0 (bS s (nI e.1) ((mTT tx n) e.2).2.1)) = some (some (.int 1), mjW0 s') ∧ MZ (mTT tx n) b s' e os.length ∧ offE b s s' := by
    intro e he
    have fb := bS_at (s := s) (nI e.1) ((mTT tx n) e.2).2.1
    have z := h.z he
    have o1 : offE b s (bS s (nI e.1) ((mTT tx n) e.2).2.1) := bS_off _ _
    have o2 : offE b (bS s (nI e.1) ((mTT tx n) e.2).2.1) (uI (bS s (nI e.1) ((mTT tx n) e.2).2.1) 154 (upd ((bS s (nI e.1) ((mTT tx n) e.2).2.1).1 154) W.length (nI (j + 1)))) := setW_off (Or.inl rfl)
    have o3 : offE b (uI (bS s (nI e.1) ((mTT tx n) e.2).2.1) 154 (upd ((bS s (nI e.1) ((mTT tx n) e.2).2.1).1 154) W.length (nI (j + 1)))) (uI (uI (bS s (nI e.1) ((mTT tx n) e.2).2.1) 154 (upd ((bS s (nI e.1) ((mTT tx n) e.2).2.1).1 154) W.length (nI (j + 1)))) 182 (upd ((uI (bS s (nI e.1) ((mTT tx n) e.2).2.1) 154 (upd ((bS s (nI e.1) ((mTT tx n) e.2).2.1).1 154) W.length (nI (j + 1)))).1 182) W.length ((bS s (nI e.1) ((mTT tx n) e.2).2.1).1 97 4))) := setW_off (Or.inr rfl)
    rw [uI_ne _ _ _ _ (show ¬ 182 = 154 by decide)] at o3
    refine ⟨_, t34 (bS s (nI e.1) ((mTT tx n) e.2).2.1) (by rw [fb.2.2.2.1 154 (by decide)]; exact p4) _ rfl, ?_, (o1.tr o2).tr o3⟩
    obtain ⟨z1, z2, z3, z4, z5, z6⟩ := z
    refine ⟨z1, z2, ?_, ?_, ?_, ?_⟩
    · rw [uI_ne _ _ _ _ (by decide), uI_ne _ _ _ _ (by decide), z3]
    · rw [uI_ne _ _ _ _ (by decide), uI_ne _ _ _ _ (by decide), z4]
    · rw [uI_ne _ _ _ _ (by decide), uI_ne _ _ _ _ (by decide), z5]
    · rw [uI_ne _ _ _ _ (by decide), uI_ne _ _ _ _ (by decide), z6]
  rw [e_294]
  unfold f_294 b_294_0
  rw [xV_97, v_begins A, bI_s, i01]
  refine ⟨fun hv j6 => ?_, fun hv => ?_, fun hv j6 => ?_⟩
  · have a1 := h.setW (x := 154) (v := nI (j + 1)) (Or.inl ⟨rfl, rfl⟩)
    have a2 := a1.setW (x := 182) (v := (mTT tx n k).2.1) (Or.inr ⟨rfl, rfl⟩)
    refine ⟨_, ?_, a2, (setW_off (Or.inl rfl)).tr (setW_off (Or.inr rfl)), ?_⟩
    · rw [hv, if_pos rfl, xg_97_75, xa_154, if_pos (mj_in_nI hl (by decide)), nI_clamp (by omega), p4, if_neg (show ¬ nI j = 6 from fun e => by have := (nI_eq (a := j) (b := 6) (by omega) (by omega)).mp e; omega), t34 s p4 _ A.2.2.1, uI_ne _ _ _ _ (show ¬ 182 = 154 by decide)]
    · rw [uI_ne _ _ _ _ (show ¬ 97 = 182 by decide), uI_ne _ _ _ _ (show ¬ 97 = 154 by decide)]
  · obtain ⟨s', e1, z1, r1⟩ := zz (F2 (mTT tx n) k) (F2_in _ _)
    exact ⟨s', by rw [hv, if_neg (show ¬ false = true by decide), xV_97, m_wrong h, bN_s, e1], z1, r1⟩
  · subst j6
    obtain ⟨s', e1, z1, r1⟩ := zz (3, k) (Or.inr (Or.inr rfl))
    exact ⟨s', by rw [hv, if_pos rfl, xg_97_75, xa_154, if_pos (mj_in_nI hl (by decide)), nI_clamp (by omega), p4, if_pos (show nI 6 = 6 from rfl), xg_97_4, A.2.2.1, xV_97, v_fail h.2.1.2.1, bN_s]; exact e1, z1, r1⟩
end MJ76
