/-! ===== the reference judges one order: what is told ===== -/
section MJB06
variable {T : TT} {d N b k t c n m v w p q kq Xe i lo hi X td : Nat} {ks zk : List Nat} {L : List CD} {s s' s'' s1 z : mjSt3} {tr : Bool} {E : EV} {j : JS} {x : WS} {r : Row} {u : mjU} {mm : Option Nat} {e : Nat × Bool} {st : List (Nat × Bool)} {a : Int32}
theorem x_decl (R : mjR) (h1 : z.1 97 87 = nI td) (h2 : td < 16) (hk : k < 10000) : ∃ s', b_335_184 R 97 (nI k) (mjW0 z) = some (none, mjW0 s') ∧ (∀ h, ¬ h = 97 → ¬ (159 ≤ h ∧ h ≤ 161) → s'.1 h = z.1 h) ∧ (∀ y, ¬ y = 87 → s'.1 97 y = z.1 97 y) ∧ (∀ h, ¬ h = 158 → s'.2.1 h = z.2.1 h) ∧ (∀ y, ¬ y = td → s'.2.1 158 y = z.2.1 158 y ∧ s'.1 159 y = z.1 159 y ∧ s'.1 160 y = z.1 160 y ∧ s'.1 161 y = z.1 161 y) ∧ s'.1 97 87 = nI (td + 1) ∧ s'.2.1 158 td = z.2.1 147 k ∧ s'.1 159 td = z.1 145 k ∧ s'.1 160 td = z.1 97 88 ∧ s'.1 161 td = 0 ∧ s'.2.2 = z.2.2 := by
  obtain ⟨z1, g1⟩ : ∃ y, y = uL z 158 (vp_updL (z.2.1 158) td (z.2.1 147 k)) := ⟨_, rfl⟩
  obtain ⟨z2, g2⟩ : ∃ y, y = uI z1 159 (upd (z1.1 159) td (z.1 145 k)) := ⟨_, rfl⟩
  obtain ⟨z3, g3⟩ : ∃ y, y = uI z2 160 (upd (z2.1 160) td (z.1 97 88)) := ⟨_, rfl⟩
  obtain ⟨z4, g4⟩ : ∃ y, y = uI z3 161 (upd (z3.1 161) td (vp_nar .boolean 0)) := ⟨_, rfl⟩
  obtain ⟨z5, g5⟩ : ∃ y, y = uI z4 97 (upd (z4.1 97) 87 (nI (td + 1))) := ⟨_, rfl⟩
  have r1 : z1.1 = z.1 := by rw [g1]; rfl
  have r2 : ∀ h, ¬ h = 159 → z2.1 h = z1.1 h := fun h e => by rw [g2]; exact uI_ne _ _ _ _ e
  have r3 : ∀ h, ¬ h = 160 → z3.1 h = z2.1 h := fun h e => by rw [g3]; exact uI_ne _ _ _ _ e
  have r4 : ∀ h, ¬ h = 161 → z4.1 h = z3.1 h := fun h e => by rw [g4]; exact uI_ne _ _ _ _ e
  have r5 : ∀ h, ¬ h = 97 → z5.1 h = z4.1 h := fun h e => by rw [g5]; exact uI_ne _ _ _ _ e
  have l5 : z5.2 = z1.2 := by rw [g5, g4, g3, g2]; rfl
  have f97 : z4.1 97 = z.1 97 := by rw [r4 97 (by decide), r3 97 (by decide), r2 97 (by decide), r1]
  refine ⟨z5, ?_, fun h e1 e2 => ?_, fun y hy => ?_, fun h hh => ?_, fun y hy => ⟨?_, ?_, ?_, ?_⟩, ?_, ?_, ?_, ?_, ?_, ?_⟩
  · unfold b_335_184
    rw [xg_97_83, xg_97_87, h1, xg_97_58, wa_147 hk, ws_158 h2, ← g1, xg_97_84, xg_97_87, r1, h1, xg_97_56, wa_145 hk, r1, ws_159 h2, ← g2, xg_97_85, xg_97_87, r2 97 (by decide), r1, h1, xg_97_88, r2 97 (by decide), r1, ws_160 h2, ← g3, xg_97_86, xg_97_87, r3 97 (by decide), r2 97 (by decide), r1, h1, ws_161 h2, ← g4, xg_97_87, f97, h1, nI_1, xp_97_87, ← g5]
  · rw [r5 h e1, r4 h (by omega), r3 h (by omega), r2 h (by omega), r1]
  · rw [g5, uI_same, upd_g, if_neg hy, f97]
  · rw [l5, g1]; exact if_neg hh
  · rw [l5, g1]
    show (if (158 : Nat) = 158 then vp_updL (z.2.1 158) td (z.2.1 147 k) else z.2.1 158) y = _
    rw [if_pos rfl]
    exact if_neg hy
  · rw [r5 159 (by decide), r4 159 (by decide), r3 159 (by decide), g2, uI_same, upd_g, if_neg hy, r1]
  · rw [r5 160 (by decide), r4 160 (by decide), g3, uI_same, upd_g, if_neg hy, r2 160 (by decide), r1]
  · rw [r5 161 (by decide), g4, uI_same, upd_g, if_neg hy, r3 161 (by decide), r2 161 (by decide), r1]
  · rw [g5, uI_same, upd_g, if_pos rfl]
  · rw [l5, g1]
    show (if (158 : Nat) = 158 then vp_updL (z.2.1 158) td (z.2.1 147 k) else z.2.1 158) td = _
    rw [if_pos rfl]
    exact if_pos rfl
  · rw [r5 159 (by decide), r4 159 (by decide), r3 159 (by decide), g2, uI_same, upd_g, if_pos rfl]
  · rw [r5 160 (by decide), r4 160 (by decide), g3, uI_same, upd_g, if_pos rfl]
  · rw [r5 161 (by decide), g4, uI_same, upd_g, if_pos rfl]
    rfl
  · rw [l5, g1]; rfl
end MJB06
