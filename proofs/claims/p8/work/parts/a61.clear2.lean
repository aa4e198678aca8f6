/-! ===== Program.clear ===== -/
/-- behind clear: program q is empty -/
def CLR (q : Nat) (s s' : mjSt3) : Prop := s'.1 q 0 = 0 ∧ s'.1 (q + 14) 0 = 0 ∧ s'.1 (q + 24) 3 = 0 ∧ (∀ j, j < 16 → s'.1 (q + 1) j = 0 ∧ s'.1 (q + 3) j = 0 ∧ s'.1 (q + 5) j = -1 ∧ s'.1 (q + 6) j = 0 ∧ s'.1 (q + 7) j = 0 ∧ s'.1 (q + 8) j = 0 ∧ s'.1 (q + 10) j = 0) ∧ (∀ j, j < 112 → s'.1 (q + 11) j = 0) ∧ (∀ j, j < 256 → s'.1 (q + 12) j = -1) ∧ (∀ j, j < 96 → s'.2.1 (q + 13) j = 0) ∧ (∀ k, k < 385 → s'.1 (q + 18) k = b2 (decide (k = 384)) ∧ s'.1 (q + 20) k = 0) ∧ s'.1 (q + 16) 384 = -1 ∧ s'.1 (q + 17) 384 = -1 ∧ (∀ h, ¬ (q ≤ h ∧ h ≤ q + 27) → s'.1 h = s.1 h) ∧ (∀ h, ¬ h = q + 13 → s'.2.1 h = s.2.1 h) ∧ s'.2.2 = s.2.2
section MJA61
variable {q d : Nat} {s : mjSt3}
theorem y377 (hq : isP q) {k N : Nat} {v : Int32} (h2 : T_0[2 + k]? = some (.inl (0, N, false))) (h3 : T_0[30 + k]? = some (.inl (0, N, false))) (hN : N < 100000) : mjF (d + 1) 377 [.ref (q + k), .int v] (mjW0 s) = some (none, mjW0 (uI s (q + k) (fillF (s.1 (q + k)) 0 N v))) := by
  rcases hq with rfl | rfl
  · exact q_377 h2 hN
  · exact q_377 h3 hN
theorem y378 (hq : isP q) {k N : Nat} {v : Int64} (h2 : T_0[2 + k]? = some (.inl (1, N, true))) (h3 : T_0[30 + k]? = some (.inl (1, N, true))) (hN : N < 100000) : mjF (d + 1) 378 [.ref (q + k), .long v] (mjW0 s) = some (none, mjW0 (uL s (q + k) (fillG (s.2.1 (q + k)) 0 N v))) := by
  rcases hq with rfl | rfl
  · exact q_378 h2 hN
  · exact q_378 h3 hN
theorem fillF_in {f : Nat → Int32} {N j : Nat} {v : Int32} (h : j < N) : fillF f 0 N v j = v := if_pos ⟨Nat.zero_le _, h⟩
theorem fillG_in {f : Nat → Int64} {N j : Nat} {v : Int64} (h : j < N) : fillG f 0 N v j = v := if_pos ⟨Nat.zero_le _, h⟩
/-- Members.clear -/
theorem x_96 (hq : isP q) : ∃ s', mjF (d + 1) 96 [.ref (q + 14)] (mjW0 s) = some (none, mjW0 s') ∧ s'.1 (q + 14) 0 = 0 ∧ (∀ k, k < 385 → s'.1 (q + 18) k = b2 (decide (k = 384)) ∧ s'.1 (q + 20) k = 0) ∧ s'.1 (q + 16) 384 = -1 ∧ s'.1 (q + 17) 384 = -1 ∧ (∀ h, ¬ h = q + 14 → ¬ h = q + 16 → ¬ h = q + 17 → ¬ h = q + 18 → ¬ h = q + 20 → s'.1 h = s.1 h) ∧ s'.2 = s.2 := by
  obtain ⟨s', a1, a2, a3, a4, a5, a6, a7⟩ := lq_96 hq (mjF d) 385 0 mjN (uI s (q + 14) (upd (s.1 (q + 14)) 0 0)) (by omega) (by have := mjN_v; omega)
  refine ⟨s', ?_, ?_, fun k hk => a2 k (Nat.zero_le _) hk, a4, a5, fun h h1 h2 h3 h4 h5 => by rw [a6 h h2 h3 h4 h5, uI_ne _ _ _ _ h1], a7⟩
  · rw [e_96]
    unfold f_96 b_96_0
    rw [ymp_0 hq]
    exact a1
  · rw [a6 _ (by omega) (by omega) (by omega) (by omega), uI_same]
    rfl
/-- Program.clear -/
theorem x_101 (hq : isP q) : ∃ s', mjF (d + 2) 101 [.ref q] (mjW0 s) = some (none, mjW0 s') ∧ CLR q s s' := by
  obtain ⟨z0, h0⟩ : ∃ z, z = uI s q (upd (s.1 q) 0 0) := ⟨_, rfl⟩
  obtain ⟨y1, h1⟩ : ∃ z, z = uI z0 (q + 1) (fillF (z0.1 (q + 1)) 0 16 0) := ⟨_, rfl⟩
  obtain ⟨y3, h3⟩ : ∃ z, z = uI y1 (q + 3) (fillF (y1.1 (q + 3)) 0 16 0) := ⟨_, rfl⟩
  obtain ⟨y5, h5⟩ : ∃ z, z = uI y3 (q + 5) (fillF (y3.1 (q + 5)) 0 16 (-1)) := ⟨_, rfl⟩
  obtain ⟨y6, h6⟩ : ∃ z, z = uI y5 (q + 6) (fillF (y5.1 (q + 6)) 0 16 0) := ⟨_, rfl⟩
  obtain ⟨y7, h7⟩ : ∃ z, z = uI y6 (q + 7) (fillF (y6.1 (q + 7)) 0 16 0) := ⟨_, rfl⟩
  obtain ⟨y8, h8⟩ : ∃ z, z = uI y7 (q + 8) (fillF (y7.1 (q + 8)) 0 16 0) := ⟨_, rfl⟩
  obtain ⟨y10, h10⟩ : ∃ z, z = uI y8 (q + 10) (fillF (y8.1 (q + 10)) 0 16 0) := ⟨_, rfl⟩
  obtain ⟨y11, h11⟩ : ∃ z, z = uI y10 (q + 11) (fillF (y10.1 (q + 11)) 0 112 0) := ⟨_, rfl⟩
  obtain ⟨y12, h12⟩ : ∃ z, z = uI y11 (q + 12) (fillF (y11.1 (q + 12)) 0 256 (-1)) := ⟨_, rfl⟩
  obtain ⟨yL, hL⟩ : ∃ z, z = uL y12 (q + 13) (fillG (y12.2.1 (q + 13)) 0 96 0) := ⟨_, rfl⟩
  obtain ⟨w, a1, a2, a3, a4, a5, a6, a7⟩ := x_96 (d := d) (s := yL) hq
  obtain ⟨s', hs⟩ : ∃ z, z = uI w (q + 24) (upd (w.1 (q + 24)) 3 0) := ⟨_, rfl⟩
  have hq' : q = 2 ∨ q = 30 := hq
  have top : ∀ h, ¬ h = q + 14 → ¬ h = q + 16 → ¬ h = q + 17 → ¬ h = q + 18 → ¬ h = q + 20 → ¬ h = q + 24 → s'.1 h = yL.1 h := fun h b1 b2 b3 b4 b5 b6 => by rw [hs, uI_ne _ _ _ _ b6, a6 h b1 b2 b3 b4 b5]
  have yl : yL.1 = y12.1 := by rw [hL]; rfl
  have r1 : ∀ j, j < 16 → s'.1 (q + 1) j = 0 := fun j hj => by rw [top _ (by omega) (by omega) (by omega) (by omega) (by omega) (by omega), yl, h12, uI_ne _ _ _ _ (by omega), h11, uI_ne _ _ _ _ (by omega), h10, uI_ne _ _ _ _ (by omega), h8, uI_ne _ _ _ _ (by omega), h7, uI_ne _ _ _ _ (by omega), h6, uI_ne _ _ _ _ (by omega), h5, uI_ne _ _ _ _ (by omega), h3, uI_ne _ _ _ _ (by omega), h1, uI_same, fillF_in hj]
  have r3 : ∀ j, j < 16 → s'.1 (q + 3) j = 0 := fun j hj => by rw [top _ (by omega) (by omega) (by omega) (by omega) (by omega) (by omega), yl, h12, uI_ne _ _ _ _ (by omega), h11, uI_ne _ _ _ _ (by omega), h10, uI_ne _ _ _ _ (by omega), h8, uI_ne _ _ _ _ (by omega), h7, uI_ne _ _ _ _ (by omega), h6, uI_ne _ _ _ _ (by omega), h5, uI_ne _ _ _ _ (by omega), h3, uI_same, fillF_in hj]
  have r5 : ∀ j, j < 16 → s'.1 (q + 5) j = (-1) := fun j hj => by rw [top _ (by omega) (by omega) (by omega) (by omega) (by omega) (by omega), yl, h12, uI_ne _ _ _ _ (by omega), h11, uI_ne _ _ _ _ (by omega), h10, uI_ne _ _ _ _ (by omega), h8, uI_ne _ _ _ _ (by omega), h7, uI_ne _ _ _ _ (by omega), h6, uI_ne _ _ _ _ (by omega), h5, uI_same, fillF_in hj]
  have r6 : ∀ j, j < 16 → s'.1 (q + 6) j = 0 := fun j hj => by rw [top _ (by omega) (by omega) (by omega) (by omega) (by omega) (by omega), yl, h12, uI_ne _ _ _ _ (by omega), h11, uI_ne _ _ _ _ (by omega), h10, uI_ne _ _ _ _ (by omega), h8, uI_ne _ _ _ _ (by omega), h7, uI_ne _ _ _ _ (by omega), h6, uI_same, fillF_in hj]
  have r7 : ∀ j, j < 16 → s'.1 (q + 7) j = 0 := fun j hj => by rw [top _ (by omega) (by omega) (by omega) (by omega) (by omega) (by omega), yl, h12, uI_ne _ _ _ _ (by omega), h11, uI_ne _ _ _ _ (by omega), h10, uI_ne _ _ _ _ (by omega), h8, uI_ne _ _ _ _ (by omega), h7, uI_same, fillF_in hj]
  have r8 : ∀ j, j < 16 → s'.1 (q + 8) j = 0 := fun j hj => by rw [top _ (by omega) (by omega) (by omega) (by omega) (by omega) (by omega), yl, h12, uI_ne _ _ _ _ (by omega), h11, uI_ne _ _ _ _ (by omega), h10, uI_ne _ _ _ _ (by omega), h8, uI_same, fillF_in hj]
  have r10 : ∀ j, j < 16 → s'.1 (q + 10) j = 0 := fun j hj => by rw [top _ (by omega) (by omega) (by omega) (by omega) (by omega) (by omega), yl, h12, uI_ne _ _ _ _ (by omega), h11, uI_ne _ _ _ _ (by omega), h10, uI_same, fillF_in hj]
  have r11 : ∀ j, j < 112 → s'.1 (q + 11) j = 0 := fun j hj => by rw [top _ (by omega) (by omega) (by omega) (by omega) (by omega) (by omega), yl, h12, uI_ne _ _ _ _ (by omega), h11, uI_same, fillF_in hj]
  have r12 : ∀ j, j < 256 → s'.1 (q + 12) j = (-1) := fun j hj => by rw [top _ (by omega) (by omega) (by omega) (by omega) (by omega) (by omega), yl, h12, uI_same, fillF_in hj]
  have r0 : s'.1 q 0 = 0 := by rw [top _ (by omega) (by omega) (by omega) (by omega) (by omega) (by omega), yl, h12, uI_ne _ _ _ _ (by omega), h11, uI_ne _ _ _ _ (by omega), h10, uI_ne _ _ _ _ (by omega), h8, uI_ne _ _ _ _ (by omega), h7, uI_ne _ _ _ _ (by omega), h6, uI_ne _ _ _ _ (by omega), h5, uI_ne _ _ _ _ (by omega), h3, uI_ne _ _ _ _ (by omega), h1, uI_ne _ _ _ _ (by omega), h0, uI_same]; rfl
  have ro : ∀ h, ¬ (q ≤ h ∧ h ≤ q + 27) → s'.1 h = s.1 h := fun h hh => by rw [top _ (by omega) (by omega) (by omega) (by omega) (by omega) (by omega), yl, h12, uI_ne _ _ _ _ (by omega), h11, uI_ne _ _ _ _ (by omega), h10, uI_ne _ _ _ _ (by omega), h8, uI_ne _ _ _ _ (by omega), h7, uI_ne _ _ _ _ (by omega), h6, uI_ne _ _ _ _ (by omega), h5, uI_ne _ _ _ _ (by omega), h3, uI_ne _ _ _ _ (by omega), h1, uI_ne _ _ _ _ (by omega), h0, uI_ne _ _ _ _ (by omega)]
  have el : y12.2 = s.2 := by rw [h12, h11, h10, h8, h7, h6, h5, h3, h1, h0]; rfl
  have es : s'.2 = yL.2 := by rw [hs]; exact a7
  refine ⟨s', ?_, r0, ?_, by rw [hs, uI_same]; rfl, fun j hj => ⟨r1 j hj, r3 j hj, r5 j hj, r6 j hj, r7 j hj, r8 j hj, r10 j hj⟩, r11, r12, fun j hj => ?_, fun k hk => ?_, ?_, ?_, ro, fun h hh => ?_, ?_⟩
  · rw [e_101]
    unfold f_101 b_101_0
    rw [yp_0 hq, ← h0]
    rw [yg_1 hq, y377 (k := 1) (N := 16) hq rfl rfl (by omega), ← h1, bN_s]
    rw [yg_3 hq, y377 (k := 3) (N := 16) hq rfl rfl (by omega), ← h3, bN_s]
    rw [yg_5 hq, y377 (k := 5) (N := 16) hq rfl rfl (by omega), ← h5, bN_s]
    rw [yg_6 hq, y377 (k := 6) (N := 16) hq rfl rfl (by omega), ← h6, bN_s]
    rw [yg_7 hq, y377 (k := 7) (N := 16) hq rfl rfl (by omega), ← h7, bN_s]
    rw [yg_8 hq, y377 (k := 8) (N := 16) hq rfl rfl (by omega), ← h8, bN_s]
    rw [yg_10 hq, y377 (k := 10) (N := 16) hq rfl rfl (by omega), ← h10, bN_s]
    rw [yg_11 hq, y377 (k := 11) (N := 112) hq rfl rfl (by omega), ← h11, bN_s]
    rw [yg_12 hq, y377 (k := 12) (N := 256) hq rfl rfl (by omega), ← h12, bN_s]
    rw [yg_13 hq, y378 (k := 13) (N := 96) hq rfl rfl (by omega), ← hL, bN_s, yg_14 hq, ymV hq, a1, bN_s, yg_15 hq, ycp_3 hq, ← hs]
  · rw [hs, uI_ne _ _ _ _ (by omega)]; exact a2
  · rw [es, hL]
    show (uL y12 (q + 13) (fillG (y12.2.1 (q + 13)) 0 96 0)).2.1 (q + 13) j = 0
    rw [uL_same, fillG_in hj]
  · rw [hs, uI_ne _ _ _ _ (by omega), uI_ne _ _ _ _ (by omega)]; exact a3 k hk
  · rw [hs, uI_ne _ _ _ _ (by omega)]; exact a4
  · rw [hs, uI_ne _ _ _ _ (by omega)]; exact a5
  · rw [es, hL]
    show (uL y12 (q + 13) (fillG (y12.2.1 (q + 13)) 0 96 0)).2.1 h = _
    rw [uL_ne _ _ _ _ hh, el]
  · rw [es, hL]
    show y12.2.2 = s.2.2
    rw [el]
end MJA61
