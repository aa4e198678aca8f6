/-! ===== the reference: a block begins ===== -/
/-- as offE, but told and the open blocks too -/
def chS (b h j : Nat) : Prop := chE b h j ∨ (h = 97 ∧ (j = 67 ∨ j = 71)) ∨ (148 ≤ h ∧ h ≤ 150)
def offS (b : Nat) : mjSt3 → mjSt3 → Prop := offG (chS b) (chEL b)
section MJ84
variable {tx : Nat → Int32} {n b d k o td : Nat} {s s' : mjSt3} {W : List WF} {os : List Row} {ks : List Nat} {S : List SF}
theorem offS_of (h : offE b s s') : offS b s s' := offG.mono h (fun _ _ q => Or.inl q) (fun _ _ q => q)
theorem MR.wS (h : MR tx n b s k o W os ks) {x : Nat} {f : Nat → Int32} (hx : 148 ≤ x ∧ x ≤ 150) : MR tx n b (uI s x f) k o W os ks := by
  obtain ⟨⟨a1, a2⟩, ⟨b1, b2, b3, b4⟩, ⟨c1, c2⟩, ⟨d1, d2⟩, e1, e2⟩ := h
  have q : ∀ h, ¬ h = x → (uI s x f).1 h = s.1 h := fun h e => uI_ne _ _ _ _ e
  refine ⟨⟨?_, ?_⟩, ⟨b1, ?_, ?_, ?_⟩, ⟨?_, fun i f hf => ?_⟩, ⟨?_, fun j y hy => ?_⟩, ?_, fun i t ht => ?_⟩
  · unfold MB at a1 ⊢
    rw [q 97 (by omega), q 98 (by omega)]; exact a1
  · unfold MT at a2 ⊢
    rw [q 97 (by omega)]; exact a2
  · rw [q 97 (by omega), b2]
  · rw [q 97 (by omega), b3]
  · rw [q 97 (by omega), b4]
  · rw [q 97 (by omega), c1]
  · unfold Wt
    rw [q 151 (by omega), q 152 (by omega), q 153 (by omega), q 154 (by omega), q 182 (by omega)]
    exact c2 i f hf
  · rw [q 122 (by omega), d1]
  · unfold Rw
    rw [q 143 (by omega), q 144 (by omega), q 145 (by omega), q 146 (by omega)]
    exact d2 j y hy
  · rw [q 121 (by omega), e1]
  · unfold Kd
    rw [q 137 (by omega), q 138 (by omega), q 141 (by omega)]
    exact e2 i t ht
/-- beginBlock -/
theorem m_begin (h : MR tx n b s k o W os ks) (m : MS s td S) (hS : S.length < 16) (hl : os.length < 4990) (x y z : Int32) : ((mTT tx n k).1 = 123 → o < 12 → ∃ s', mjF (d + 6) 280 [.ref 97, .int x, .int y, .int z] (mjW0 s) = some (none, mjW0 s') ∧ MR tx n b s' (k + 1) (o + 1) W (os ++ [(26, (mTT tx n (k + 1)).2.1, 0, 0, 0)]) ks ∧ MS s' td (S ++ [(x, y, z)]) ∧ offS b s s') ∧ ((mTT tx n k).1 = 123 → o = 12 → ∃ s', mjF (d + 6) 280 [.ref 97, .int x, .int y, .int z] (mjW0 s) = some (none, mjW0 s') ∧ MZ (mTT tx n) b s' (3, k) os.length ∧ offS b s s') ∧ (¬ (mTT tx n k).1 = 123 → ∃ s', mjF (d + 6) 280 [.ref 97, .int x, .int y, .int z] (mjW0 s) = some (none, mjW0 s') ∧ MZ (mTT tx n) b s' (F2 (mTT tx n) k) os.length ∧ offS b s s') := by
  have zz : ∀ (s1 : mjSt3) (e : Nat × Nat), mjF (d + 5) 274 [.ref 97, .int 123] (mjW0 s) = some (none, mjW0 s1) → MZ (mTT tx n) b s1 e os.length → mjF (d + 6) 280 [.ref 97, .int x, .int y, .int z] (mjW0 s) = some (none, mjW0 s1) := by
    intro s1 e e1 z1
    have hp : ¬ nI e.1 ≤ 0 := by
      rcases z1.2.1 with q | q | q <;> rw [q] <;> decide
    rw [e_280]
    unfold f_280 b_280_0
    rw [xV_97, e1, bN_s, xg_97_61, z1.2.2.1, if_neg hp]
  refine ⟨fun e ho => ?_, fun e ho => ?_, fun e => ?_⟩
  · obtain ⟨s1, e1, a1, r1, f1⟩ := m_opens (d := d + 1) h (c := 123) (by decide) e ho
    obtain ⟨s2, e2, a2, r2, f2⟩ := m_order (d := d + 4) a1 hl 26 (mTT tx n (k + 1)).2.1 0 0
    have m2 := m.off (r1.tr r2)
    obtain ⟨t3, h3⟩ : ∃ t, t = uI s2 148 (upd (s2.1 148) S.length x) := ⟨_, rfl⟩
    have q3 : ∀ h, ¬ h = 148 → t3.1 h = s2.1 h := fun h e => by rw [h3]; exact uI_ne _ _ _ _ e
    have u3 : t3.1 148 = upd (s2.1 148) S.length x := by rw [h3, uI_same]
    have a3 : MR tx n b t3 (k + 1) (o + 1) W (os ++ [(26, (mTT tx n (k + 1)).2.1, 0, 0, 0)]) ks := by rw [h3]; exact a2.wS (by omega)
    have o3 : offS b s2 t3 := by rw [h3]; exact offG.w (by unfold chS; omega)
    obtain ⟨t4, h4⟩ : ∃ t, t = uI t3 149 (upd (t3.1 149) S.length y) := ⟨_, rfl⟩
    have q4 : ∀ h, ¬ h = 149 → t4.1 h = t3.1 h := fun h e => by rw [h4]; exact uI_ne _ _ _ _ e
    have u4 : t4.1 149 = upd (t3.1 149) S.length y := by rw [h4, uI_same]
    have a4 : MR tx n b t4 (k + 1) (o + 1) W (os ++ [(26, (mTT tx n (k + 1)).2.1, 0, 0, 0)]) ks := by rw [h4]; exact a3.wS (by omega)
    have o4 : offS b t3 t4 := by rw [h4]; exact offG.w (by unfold chS; omega)
    obtain ⟨t5, h5⟩ : ∃ t, t = uI t4 150 (upd (t4.1 150) S.length z) := ⟨_, rfl⟩
    have q5 : ∀ h, ¬ h = 150 → t5.1 h = t4.1 h := fun h e => by rw [h5]; exact uI_ne _ _ _ _ e
    have u5 : t5.1 150 = upd (t4.1 150) S.length z := by rw [h5, uI_same]
    have a5 : MR tx n b t5 (k + 1) (o + 1) W (os ++ [(26, (mTT tx n (k + 1)).2.1, 0, 0, 0)]) ks := by rw [h5]; exact a4.wS (by omega)
    have o5 : offS b t4 t5 := by rw [h5]; exact offG.w (by unfold chS; omega)
    obtain ⟨t6, h6⟩ : ∃ t, t = uI t5 97 (upd (t5.1 97) 71 (nI (S.length + 1))) := ⟨_, rfl⟩
    have q6 : ∀ h, ¬ h = 97 → t6.1 h = t5.1 h := fun h e => by rw [h6]; exact uI_ne _ _ _ _ e
    have u6 : t6.1 97 = upd (t5.1 97) 71 (nI (S.length + 1)) := by rw [h6, uI_same]
    have a6 : MR tx n b t6 (k + 1) (o + 1) W (os ++ [(26, (mTT tx n (k + 1)).2.1, 0, 0, 0)]) ks := by rw [h6]; exact a5.w97 (by omega)
    have o6 : offS b t5 t6 := by rw [h6]; exact offG.w (by unfold chS; omega)
    have g5 : t5.1 97 = s2.1 97 := by rw [q5 97 (by decide), q4 97 (by decide), q3 97 (by decide)]
    refine ⟨t6, ?_, a6, ⟨?_, ?_, fun i f hf => ?_⟩, ((offS_of (r1.tr r2)).tr o3).tr (o4.tr (o5.tr o6))⟩
    · rw [e_280]
      unfold f_280 b_280_0
      have n71 : nI S.length + (1 : Int32) = nI (S.length + 1) := by rw [show (1 : Int32) = nI 1 from rfl, nI_add]
      rw [xV_97, e1, bN_s, xg_97_61, a1.2.1.2.1, if_pos (by decide), xg_97_4, a1.at.2.2.1, xV_97, e2, bN_s, xg_97_68, xg_97_71, m2.2.1, xs_148, if_pos (mj_in_nI (by omega) (by decide)), nI_clamp (by omega), ← h3, xg_97_69, xg_97_71, q3 97 (by decide), m2.2.1, xs_149, if_pos (mj_in_nI (by omega) (by decide)), nI_clamp (by omega), ← h4, xg_97_70, xg_97_71, q4 97 (by decide), q3 97 (by decide), m2.2.1, xs_150, if_pos (mj_in_nI (by omega) (by decide)), nI_clamp (by omega), ← h5, xg_97_71, g5, m2.2.1, n71, xp_97_71, ← h6]
    · rw [u6, g5]
      exact m2.1
    · rw [u6, List.length_append]
      exact if_pos rfl
    · rw [q6 148 (by decide), q5 148 (by decide), q4 148 (by decide), u3, q6 149 (by decide), q5 149 (by decide), u4, q3 149 (by decide), q6 150 (by decide), u5, q4 150 (by decide), q3 150 (by decide)]
      by_cases ei : i = S.length
      · subst ei
        rw [List.getElem?_append_right (Nat.le_refl _), Nat.sub_self] at hf
        have ef : (x, y, z) = f := by simpa using hf
        subst ef
        exact ⟨if_pos rfl, if_pos rfl, if_pos rfl⟩
      · have hi : i < S.length := by
          have := (List.getElem?_eq_some_iff.mp hf).1
          rw [List.length_append] at this
          have : i < S.length + 1 := this
          omega
        rw [List.getElem?_append_left hi] at hf
        obtain ⟨p1, p2, p3⟩ := m2.2.2 i f hf
        exact ⟨(if_neg ei).trans p1, (if_neg ei).trans p2, (if_neg ei).trans p3⟩
  · subst ho
    obtain ⟨s1, e1, z1, r1⟩ := m_opens3 (d := d + 1) h (c := 123) (by decide) e
    exact ⟨s1, zz s1 _ e1 z1, z1, offS_of r1⟩
  · have e1 := m_opens2 (d := d + 1) h (c := 123) (by decide) e
    exact ⟨_, zz _ _ e1 (m_wz h), m_wz h, offS_of (bS_off _ _)⟩
end MJ84
