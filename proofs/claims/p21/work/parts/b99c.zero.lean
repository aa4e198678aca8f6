/-! ===== the state at the start ===== -/
theorem q_A : H_A = mjRH rA := fz_of pA
theorem w_A : RW zA.2.2.2 H_A := q_A ▸ goN_row n_A
theorem q_B : H_B = mjRH rB := fz_of pB
theorem w_B : RW H_A H_B := q_B ▸ goN_row n_B
theorem q_D : H_D = mjRH rD := fz_of pD
theorem w_D : RW H_C H_D := q_D ▸ goN_row n_D
theorem q_E : H_E = mjRH rE := fz_of pE
theorem w_E : RW H_D H_E := q_E ▸ goN_row n_E
theorem q_F0 : H_F0 = mjRH rF0 := fz_of pF0
theorem w_F0 : RW H_E H_F0 := q_F0 ▸ goN_row n_F0
theorem q_F1 : H_F1 = mjRH rF1 := fz_of pF1
theorem w_F1 : RW H_F0 H_F1 := q_F1 ▸ goN_row n_F1
theorem q_F2 : H_F2 = mjRH rF2 := fz_of pF2
theorem w_F2 : RW H_F1 H_F2 := q_F2 ▸ goN_row n_F2
theorem q_F3 : H_F3 = mjRH rF3 := fz_of pF3
theorem w_F3 : RW H_F2 H_F3 := q_F3 ▸ goN_row n_F3
theorem q_F4 : H_F4 = mjRH rF4 := fz_of pF4
theorem w_F4 : RW H_F3 H_F4 := q_F4 ▸ goN_row n_F4
theorem q_F5 : H_F5 = mjRH rF5 := fz_of pF5
theorem w_F5 : RW H_F4 H_F5 := q_F5 ▸ goN_row n_F5
theorem q_F6 : H_F6 = mjRH rF6 := fz_of pF6
theorem w_F6 : RW H_F5 H_F6 := q_F6 ▸ goN_row n_F6
theorem q_C : H_C = mjRU (b_152_48 (mjF 20) 58 H_B) := fu_of pC
theorem w_DF : RW H_C H_F6 := ((((((((w_D.tr w_E).tr w_F0).tr w_F1).tr w_F2).tr w_F3).tr w_F4).tr w_F5).tr w_F6)
theorem row_59 : (List.range 16).all (fun i => decide (mjGl (mjRU (b_152_48 (mjF 20) 58 H_B)) 59 i = lN (rN gC (wdL.getD i [])))) = true := by decide +kernel
theorem row_1 : (List.range 3000).all (fun i => decide (mjGi (mjRU (b_152_48 (mjF 20) 58 H_B)) 1 i = 0)) = true := by decide +kernel
theorem row_99 : (List.range 16).all (fun i => decide (s_0.2.1 99 (i + 1) = lN (rN gM (wdL.getD i [])))) = true := by decide +kernel
theorem x_227 {d : Nat} {hp : mjH} (a : Int64) (b : Int32) : ∃ v, mjF (d + 2) 227 [.long a, .int b] hp = some (some (.long v), hp) := by
  rw [e_227]
  unfold f_227 b_227_0
  rw [x_code, bI_s]
  by_cases h : cdM b = 0
  · rw [if_pos h]
    exact ⟨_, rfl⟩
  · rw [if_neg h, x_code, bI_s]
    exact ⟨_, rfl⟩
theorem x_226 {s : mjSt3} (k : Int32) (hk : mj_in k 17 = true) (a b c e f g : Int32) : ∃ s', mjF 20 226 [.ref 97, .int k, .int a, .int b, .int c, .int e, .int f, .int g] (mjW0 s) = some (none, mjW0 s') ∧ s'.1 = s.1 ∧ ∀ h, ¬ h = 99 → s'.2.1 h = s.2.1 h := by
  rw [show (20 : Nat) = 19 + 1 from rfl, e_226]
  unfold f_226 b_226_0
  obtain ⟨v1, e1⟩ := x_227 (d := 17) (hp := mjW0 s) 0 a
  obtain ⟨v2, e2⟩ := x_227 (d := 17) (hp := mjW0 s) v1 b
  obtain ⟨v3, e3⟩ := x_227 (d := 17) (hp := mjW0 s) v2 c
  obtain ⟨v4, e4⟩ := x_227 (d := 17) (hp := mjW0 s) v3 e
  obtain ⟨v5, e5⟩ := x_227 (d := 17) (hp := mjW0 s) v4 f
  obtain ⟨v6, e6⟩ := x_227 (d := 17) (hp := mjW0 s) v5 g
  rw [show (19 : Nat) = 17 + 2 from rfl, e1, bL_s, e2, bL_s, e3, bL_s, e4, bL_s, e5, bL_s, e6, bL_s, xg_97_8, xs_99, if_pos hk]
  exact ⟨_, rfl, rfl, fun h hh => uL_ne _ _ _ _ hh⟩
theorem x_G (s : mjSt3) : ∃ s', b_225_778 (mjF 20) 97 (mjW0 s) = some (none, mjW0 s') ∧ s'.1 = s.1 ∧ ∀ h, ¬ h = 99 → s'.2.1 h = s.2.1 h := by
  unfold b_225_778
  obtain ⟨s1, e1, i1, l1⟩ := x_226 (s := s) 1 (by decide) 99 108 97 115 115 0
  rw [xV_97, e1, bN_s]
  obtain ⟨s2, e2, i2, l2⟩ := x_226 (s := s1) 2 (by decide) 105 115 0 0 0 0
  rw [xV_97, e2, bN_s]
  obtain ⟨s3, e3, i3, l3⟩ := x_226 (s := s2) 3 (by decide) 119 104 101 114 101 0
  rw [xV_97, e3, bN_s]
  obtain ⟨s4, e4, i4, l4⟩ := x_226 (s := s3) 4 (by decide) 105 110 0 0 0 0
  rw [xV_97, e4, bN_s]
  obtain ⟨s5, e5, i5, l5⟩ := x_226 (s := s4) 5 (by decide) 109 97 105 110 0 0
  rw [xV_97, e5, bN_s]
  obtain ⟨s6, e6, i6, l6⟩ := x_226 (s := s5) 6 (by decide) 105 110 116 0 0 0
  rw [xV_97, e6, bN_s]
  obtain ⟨s7, e7, i7, l7⟩ := x_226 (s := s6) 7 (by decide) 110 117 108 108 0 0
  rw [xV_97, e7, bN_s]
  obtain ⟨s8, e8, i8, l8⟩ := x_226 (s := s7) 8 (by decide) 116 104 105 115 0 0
  rw [xV_97, e8, bN_s]
  obtain ⟨s9, e9, i9, l9⟩ := x_226 (s := s8) 9 (by decide) 119 111 114 108 100 0
  rw [xV_97, e9, bN_s]
  obtain ⟨s10, e10, i10, l10⟩ := x_226 (s := s9) 10 (by decide) 110 101 119 0 0 0
  rw [xV_97, e10, bN_s]
  obtain ⟨s11, e11, i11, l11⟩ := x_226 (s := s10) 11 (by decide) 105 102 0 0 0 0
  rw [xV_97, e11, bN_s]
  obtain ⟨s12, e12, i12, l12⟩ := x_226 (s := s11) 12 (by decide) 101 108 115 101 0 0
  rw [xV_97, e12, bN_s]
  obtain ⟨s13, e13, i13, l13⟩ := x_226 (s := s12) 13 (by decide) 119 104 105 108 101 0
  rw [xV_97, e13, bN_s]
  obtain ⟨s14, e14, i14, l14⟩ := x_226 (s := s13) 14 (by decide) 114 101 116 117 114 110
  rw [xV_97, e14, bN_s]
  obtain ⟨s15, e15, i15, l15⟩ := x_226 (s := s14) 15 (by decide) 115 97 121 0 0 0
  rw [xV_97, e15, bN_s]
  obtain ⟨s16, e16, i16, l16⟩ := x_226 (s := s15) 16 (by decide) 97 115 0 0 0 0
  rw [xV_97, e16, bN_s]
  exact ⟨s16, rfl, (((((((((((((((i16.trans i15).trans i14).trans i13).trans i12).trans i11).trans i10).trans i9).trans i8).trans i7).trans i6).trans i5).trans i4).trans i3).trans i2).trans i1), fun h hh => by rw [l16 h hh, l15 h hh, l14 h hh, l13 h hh, l12 h hh, l11 h hh, l10 h hh, l9 h hh, l8 h hh, l7 h hh, l6 h hh, l5 h hh, l4 h hh, l3 h hh, l2 h hh, l1 h hh]⟩
theorem gl_59 (s : mjSt3) : mjGl (mjW0 s) 59 = s.2.1 59 := by
  unfold mjGl mjW0
  rw [mjHT_get, tT_59]
  rfl
theorem gi_1 (s : mjSt3) : mjGi (mjW0 s) 1 = s.1 1 := by
  unfold mjGi mjW0
  rw [mjHT_get, tT_1]
  rfl
theorem st_59 (hp : mjH) : (st3 S_F hp).2.1 59 = mjGl hp 59 := rfl
theorem st_1 (hp : mjH) : (st3 S_F hp).1 1 = mjGi hp 1 := rfl
theorem mjRU_s {r : Option Value} {hp : mjH} : mjRU (some (r, hp)) = hp := rfl
theorem s0_59 : s_0.2.1 59 = mjGl H_C 59 ∧ s_0.1 1 = mjGi H_C 1 := by
  have h6 : H_F6 = mjW0 (st3 S_F6 (mjRH rF6)) := mjFz_HT (S := S_F6) (T := T_0) T_ok _
  obtain ⟨s', e, i, l⟩ := x_G (st3 S_F6 (mjRH rF6))
  rw [← h6] at e
  have a1 : s_0.2.1 59 = mjGl (mjRU (b_225_778 (mjF 20) 97 H_F6)) 59 := by
    unfold s_0
    exact st_59 _
  have a2 : s_0.1 1 = mjGi (mjRU (b_225_778 (mjF 20) 97 H_F6)) 1 := by
    unfold s_0
    exact st_1 _
  have b1 : mjGl H_F6 59 = (st3 S_F6 (mjRH rF6)).2.1 59 := by rw [h6, gl_59]
  have b2 : mjGi H_F6 1 = (st3 S_F6 (mjRH rF6)).1 1 := by rw [h6, gi_1]
  refine ⟨?_, ?_⟩
  · rw [a1, e, mjRU_s, gl_59, l 59 (by decide), ← b1, w_DF.1]
  · rw [a2, e, mjRU_s, gi_1, i, ← b2, w_DF.2]
theorem Inv_0 : Inv 0 s_0 := by
  obtain ⟨h59, h1⟩ := s0_59
  refine ⟨⟨⟨0, by decide, rfl, rfl, fun i hi => by omega⟩, fun i hi => ?_, ⟨fun i hi => ?_, fun i hi => ?_⟩, ⟨Or.inl rfl, Or.inr rfl, by decide⟩, ⟨0, by decide, rfl⟩, Or.inl rfl⟩, Or.inl ⟨rfl, rfl, ⟨rfl, rfl⟩, ⟨rfl, rfl, rfl, rfl, rfl⟩, ⟨rfl, rfl⟩, ⟨rfl, rfl⟩, fun _ _ _ _ => Or.inl rfl⟩⟩
  · have := List.all_eq_true.mp row_1 i (List.mem_range.mpr hi)
    rw [decide_eq_true_eq] at this
    rw [h1, q_C, this]
    unfold byR
    decide
  · have := List.all_eq_true.mp row_59 i (List.mem_range.mpr hi)
    rw [decide_eq_true_eq] at this
    rw [h59, q_C, this]
  · have := List.all_eq_true.mp row_99 i (List.mem_range.mpr hi)
    rw [decide_eq_true_eq] at this
    exact this
