/-! ===== cut ===== -/
/-- the class's tokens of the first n bytes -/
def cToks (s : mjSt3) (n : Nat) : List (Int32 × Nat × Int64) := toks (s.1 1) (s.2.1 59) n n (skB (s.1 1) n false 0)
/-- the tokens stand in the rows, the cursor at the first, no fault is met -/
def cutS (s s' : mjSt3) (n : Nat) : Prop := s'.1 58 5 = nI ((cToks s n).length + 1) ∧ s'.1 58 6 = 0 ∧ s'.1 58 7 = 0 ∧ s'.1 58 8 = -1 ∧ holdsT s' 0 (cToks s n ++ [(0, n, 0)]) ∧ (∀ q, ¬ q = 58 → ¬ q = 60 → ¬ q = 61 → ¬ q = 63 → s'.1 q = s.1 q) ∧ (∀ q, ¬ q = 62 → s'.2.1 q = s.2.1 q) ∧ s'.2.2 = s.2.2
theorem x_cut {d n : Nat} {s : mjSt3} (hn : n ≤ 3000) (hb : ∀ i, i < n → s.1 1 i ≤ 127) : ∃ s', mjF (d + 7) 154 [.ref 58, .ref 1, .int (nI n)] (mjW0 s) = some (none, mjW0 s') ∧ cutS s s' n := by
  rw [e_154]
  unfold f_154
  unfold b_154_0
  rw [xp_58_5, xp_58_6, xp_58_7, xp_58_8]
  simp only [uI_same, uI_uI]
  generalize hz : uI s 58 (upd (upd (upd (upd (s.1 58) 5 0) 6 0) 7 0) 8 (-1)) = z
  have z58 : z.1 58 = upd (upd (upd (upd (s.1 58) 5 0) 6 0) 7 0) 8 (-1) := by rw [← hz, uI_same]
  have zq : ∀ q, ¬ q = 58 → z.1 q = s.1 q := fun q hq => by rw [← hz, uI_ne _ _ _ _ hq]
  have z2 : z.2 = s.2 := by rw [← hz]; rfl
  have z5 : z.1 58 5 = nI 0 := by rw [z58]; rfl
  have sk := skB_le (s.1 1) n false 0
  have e1 := x_blanks (d := d + 5) (n := n) (i := 0) (k := n) (s := z) hn (by omega)
  rw [zq 1 (by decide)] at e1
  obtain ⟨s', g1, g2, g3, g4⟩ := lq_154 (d := d) hn n (skB (s.1 1) n false 0) 0 mjN 0 z (by omega) (by omega) (by omega) (by omega) z5 (by unfold mjN; omega) (by rw [zq 1 (by decide)]; exact hb)
  rw [zq 1 (by decide), z2] at g3 g4
  obtain ⟨o1, o2, o3, o4, o5⟩ := g2
  refine ⟨s', ?_, ?_, ?_, ?_, ?_, g3, ?_, ?_, ?_⟩
  · rw [show (0 : Int32) = nI 0 from rfl, e1, bI_s]
    exact g1
  · rw [g4, Nat.zero_add]; rfl
  · rw [o2 6 (by decide), z58]; rfl
  · rw [o2 7 (by decide), z58]; rfl
  · rw [o2 8 (by decide), z58]; rfl
  · intro q x0 x1 x2 x3
    rw [o1 q x0 x1 x2 x3, zq q x0]
  · intro q hq
    rw [o3 q hq, z2]
  · rw [o4, z2]
