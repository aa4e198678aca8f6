/-! ===== start ===== -/
/-- a RUN that begins -/
def aBeg : AMS := ((0, fun _ => (0, fun _ => 0, fun _ => 0)), [(384, 0, -1, (fun _ => 0), 0)], 0, [], 1, 0, (fun _ => 0), 0, 1, 0, 0, -1)
section MJB74
variable {T : TT} {d N k0 b wm cm q p0 : Nat} {L : List CD} {t : PT} {rs : List RcM} {z : PB} {tr : Bool} {s : mjSt3} {pf : Nat → Nat → Nat}
theorem aBeg_ok (h1 : 1 ≤ cm) : AOK T t rs z tr k0 wm cm aBeg := by
  refine ⟨fun o o1 o2 => ?_, Nat.zero_le _, h1, fun _ => ⟨(384, 0, -1, (fun _ => 0), 0), [], rfl, ⟨Or.inl ⟨rfl, rfl⟩, fun v _ => vOK.zero⟩, Nat.zero_le _, jmT T t.1 384, [], [], [], rfl, ?_, rfl, rfl, rfl⟩, fun h => absurd rfl h⟩
  · have o2' : o ≤ 0 := o2
    omega
  · exact trivial
theorem aBeg_y : YI rs z aBeg := ⟨0, ⟨0, 0, Nat.le_refl _, fun h => absurd h inY_0, trivial⟩, Nat.le_refl _⟩
/-- add, main's CALL -/
theorem x_37m (h0 : s.1 83 0 = nI 0) (h1 : s.1 83 1 = nI 0) : ∃ s', mjF (d + 3) 37 [.ref 83, .int 384, .int 0, .int 0] (mjW0 s) = some (none, mjW0 s') ∧ s'.1 84 0 = 384 ∧ s'.1 85 0 = 0 ∧ s'.1 87 0 = -1 ∧ (∀ v, v < 16 → s'.1 88 v = 0) ∧ s'.1 83 0 = 1 ∧ s'.1 83 1 = 1 ∧ (∀ h, ¬ (83 ≤ h ∧ h ≤ 88) → s'.1 h = s.1 h) ∧ s'.2 = s.2 := by
  obtain ⟨z1, g1⟩ : ∃ y, y = uI s 84 (upd (s.1 84) 0 384) := ⟨_, rfl⟩
  obtain ⟨z2, g2⟩ : ∃ y, y = uI z1 85 (upd (z1.1 85) 0 0) := ⟨_, rfl⟩
  obtain ⟨z3, g3⟩ : ∃ y, y = uI z2 86 (upd (z2.1 86) 0 0) := ⟨_, rfl⟩
  obtain ⟨z4, g4⟩ : ∃ y, y = uI z3 87 (upd (z3.1 87) 0 (-1)) := ⟨_, rfl⟩
  obtain ⟨z5, g5⟩ : ∃ y, y = uI z4 88 (fillF (z4.1 88) 0 16 0) := ⟨_, rfl⟩
  obtain ⟨z6, g6⟩ : ∃ y, y = uI z5 83 (upd (z5.1 83) 0 (nI 1)) := ⟨_, rfl⟩
  obtain ⟨z7, g7⟩ : ∃ y, y = uI z6 83 (upd (z6.1 83) 1 (nI 1)) := ⟨_, rfl⟩
  have e1 : z1.1 83 = s.1 83 := by rw [g1, uI_ne _ _ _ _ (by decide)]
  have e2 : z2.1 83 = s.1 83 := by rw [g2, uI_ne _ _ _ _ (by decide), e1]
  have e3 : z3.1 83 = s.1 83 := by rw [g3, uI_ne _ _ _ _ (by decide), e2]
  have e4 : z4.1 83 = s.1 83 := by rw [g4, uI_ne _ _ _ _ (by decide), e3]
  have e5 : z5.1 83 = s.1 83 := by rw [g5, uI_ne _ _ _ _ (by decide), e4]
  have v6 : ∀ j, z6.1 83 j = if j = 0 then nI 1 else s.1 83 j := fun j => by rw [g6, uI_same, upd_g, e5]
  refine ⟨z7, ?_, ?_, ?_, ?_, fun v hv => ?_, ?_, ?_, fun h e => ?_, by rw [g7, g6, g5, g4, g3, g2, g1]; rfl⟩
  · rw [e_37]
    unfold f_37 b_37_0
    rw [xg_83_0, h0, if_pos (show nI 0 < (40 : Int32) by decide), xg_83_2, xg_83_0, h0, ws_84 (show 0 < 40 by decide), ← g1, xg_83_3, xg_83_0, e1, h0, ws_85 (show 0 < 40 by decide), ← g2, xg_83_4, xg_83_0, e2, h0, ws_86 (show 0 < 40 by decide), ← g3, xg_83_5, xg_83_0, e3, h0, ws_87 (show 0 < 40 by decide), ← g4, xg_83_0, e4, h0, xg_83_6, show nI 0 * (16 : Int32) = nI 0 from rfl, show nI 0 + (16 : Int32) = nI 16 from rfl, q_379 tT_88 (by decide) (by omega) (by omega), bN_s, ← g5, xg_83_0, e5, h0, nI_1, xp_83_0, ← g6, xg_83_1, xg_83_0, v6, v6, if_neg (show ¬ 1 = 0 by decide), if_pos rfl, h1, q_max, if_neg (show ¬ nI (0 + 1) ≤ nI 0 by decide), bI_s, xp_83_1, show nI (0 + 1) = nI 1 from rfl, ← g7]
  · rw [g7, uI_ne _ _ _ _ (by decide), g6, uI_ne _ _ _ _ (by decide), g5, uI_ne _ _ _ _ (by decide), g4, uI_ne _ _ _ _ (by decide), g3, uI_ne _ _ _ _ (by decide), g2, uI_ne _ _ _ _ (by decide), g1, uI_same, upd_g, if_pos rfl]
  · rw [g7, uI_ne _ _ _ _ (by decide), g6, uI_ne _ _ _ _ (by decide), g5, uI_ne _ _ _ _ (by decide), g4, uI_ne _ _ _ _ (by decide), g3, uI_ne _ _ _ _ (by decide), g2, uI_same, upd_g, if_pos rfl]
  · rw [g7, uI_ne _ _ _ _ (by decide), g6, uI_ne _ _ _ _ (by decide), g5, uI_ne _ _ _ _ (by decide), g4, uI_same, upd_g, if_pos rfl]
  · rw [g7, uI_ne _ _ _ _ (by decide), g6, uI_ne _ _ _ _ (by decide), g5, uI_same]
    show (if 0 ≤ v ∧ v < 16 then 0 else z4.1 88 v) = 0
    rw [if_pos ⟨Nat.zero_le _, hv⟩]
  · rw [g7, uI_same, upd_g, if_neg (by decide), v6, if_pos rfl]; rfl
  · rw [g7, uI_same, upd_g, if_pos rfl]; rfl
  · rw [g7, uI_ne _ _ _ _ (by omega), g6, uI_ne _ _ _ _ (by omega), g5, uI_ne _ _ _ _ (by omega), g4, uI_ne _ _ _ _ (by omega), g3, uI_ne _ _ _ _ (by omega), g2, uI_ne _ _ _ _ (by omega), g1, uI_ne _ _ _ _ (by omega)]
/-- begin -/
theorem x_74 (hq : isP q) (hst : s.1 (q + 23) 384 = nI (pf 384 0)) : ∃ s', mjF (d + 4) 74 [.ref 82, .ref q, .int (nI wm), .int (nI cm)] (mjW0 s) = some (none, mjW0 s') ∧ (s'.2.2 82 2 = q ∧ s'.2.2 82 3 = q + 24 ∧ ∀ h, ¬ h = 82 → s'.2.2 h = s.2.2 h) ∧ s'.2.1 = s.2.1 ∧ (∀ h, ¬ (79 ≤ h ∧ h ≤ 88) → s'.1 h = s.1 h) ∧ CRn T L pf wm cm (pf 384 0) aBeg s' := by
  have hq' : q = 2 ∨ q = 30 := hq
  obtain ⟨s1, a1, a2, a3, ⟨a4, a5⟩, ⟨a6, a7, a8⟩, a9, a10⟩ := x_73 (d := d + 1) (s := s)
  obtain ⟨s2, g2⟩ : ∃ y, y = uR s1 82 (updR (s1.2.2 82) 2 q) := ⟨_, rfl⟩
  obtain ⟨s3, g3⟩ : ∃ y, y = uR s2 82 (updR (s2.2.2 82) 3 (q + 24)) := ⟨_, rfl⟩
  obtain ⟨s4, g4⟩ : ∃ y, y = uI s3 82 (upd (s3.1 82) 7 (nI cm)) := ⟨_, rfl⟩
  obtain ⟨s5, c1, c2, c3, c4, c5, c6⟩ := x_42 (d := d + 2) (s := s4) (nI wm)
  obtain ⟨s6, g6⟩ : ∃ y, y = uI s5 82 (upd (s5.1 82) 8 1) := ⟨_, rfl⟩
  have i3 : s3.1 = s1.1 := by rw [g3, g2]; rfl
  have i4 : ∀ h j, s4.1 h j = if h = 82 ∧ j = 7 then nI cm else s1.1 h j := by
    intro h j
    rw [g4]
    by_cases e : h = 82
    · rw [e, uI_same, upd_g, i3]
      by_cases e2 : j = 7
      · rw [if_pos e2, if_pos ⟨rfl, e2⟩]
      · rw [if_neg e2, if_neg (fun x => e2 x.2)]
    · rw [uI_ne _ _ _ _ e, i3, if_neg (fun x => e x.1)]
  have i6 : ∀ h j, s6.1 h j = if h = 82 ∧ j = 8 then 1 else s5.1 h j := by
    intro h j
    rw [g6]
    by_cases e : h = 82
    · rw [e, uI_same, upd_g]
      by_cases e2 : j = 8
      · rw [if_pos e2, if_pos ⟨rfl, e2⟩]
      · rw [if_neg e2, if_neg (fun x => e2 x.2)]
    · rw [uI_ne _ _ _ _ e, if_neg (fun x => e x.1)]
  have i5 : ∀ h j, ¬ (h = 79 ∧ 2 ≤ j ∧ j ≤ 4) → s5.1 h j = if h = 82 ∧ j = 7 then nI cm else s1.1 h j := fun h j e => (c5 h j e).trans (i4 h j)
  obtain ⟨s7, d1, d2, d3, d4, d5, d6, d7, d8, d9⟩ := x_37m (d := d) (s := s6) (by rw [i6, if_neg (by omega), i5 _ _ (by omega), if_neg (by omega)]; exact a4) (by rw [i6, if_neg (by omega), i5 _ _ (by omega), if_neg (by omega)]; exact a5)
  obtain ⟨s8, g8⟩ : ∃ y, y = uI s7 82 (upd (s7.1 82) 4 (nI (pf 384 0))) := ⟨_, rfl⟩
  have rf2 : s7.2.2 = s3.2.2 := by rw [d9, g6, show (uI s5 82 (upd (s5.1 82) 8 1)).2 = s5.2 from rfl, c6, g4]; rfl
  have rf3 : ∀ h j, s3.2.2 h j = if h = 82 ∧ j = 3 then q + 24 else if h = 82 ∧ j = 2 then q else s.2.2 h j := by
    intro h j
    have e10 : s1.2.2 = s.2.2 := by rw [a10]
    by_cases e : h = 82
    · rw [e, g3, uR_same]
      show (if j = 3 then q + 24 else s2.2.2 82 j) = _
      rw [g2, uR_same]
      show (if j = 3 then q + 24 else if j = 2 then q else s1.2.2 82 j) = _
      rw [e10]
      by_cases e3 : j = 3
      · rw [if_pos e3, if_pos ⟨rfl, e3⟩]
      · rw [if_neg e3, if_neg (show ¬ ((82 : Nat) = 82 ∧ j = 3) from fun x => e3 x.2)]
        by_cases e2 : j = 2
        · rw [if_pos e2, if_pos (show (82 : Nat) = 82 ∧ j = 2 from ⟨rfl, e2⟩)]
        · rw [if_neg e2, if_neg (show ¬ ((82 : Nat) = 82 ∧ j = 2) from fun x => e2 x.2)]
    · rw [g3, uR_ne _ _ _ _ e, g2, uR_ne _ _ _ _ e, e10, if_neg (fun x => e x.1), if_neg (fun x => e x.1)]
  have r7 : s7.2.2 82 2 = q := by rw [rf2, rf3, if_neg (by omega), if_pos ⟨rfl, rfl⟩]
  have lo : ∀ h, ¬ (79 ≤ h ∧ h ≤ 88) → s7.1 h = s.1 h := fun h e => by
    rw [d8 h (by omega)]
    funext j
    rw [i6, if_neg (by omega), i5 h j (by omega), if_neg (by omega), a9 h j (by omega)]
  have v8 : ∀ j, s8.1 82 j = if j = 4 then nI (pf 384 0) else if j = 8 then 1 else if j = 7 then nI cm else s1.1 82 j := by
    intro j
    rw [g8, uI_same, upd_g, d8 82 (by omega), i6, i5 82 j (by omega)]
    by_cases e4 : j = 4
    · rw [if_pos e4, if_pos e4]
    · rw [if_neg e4, if_neg e4]
      by_cases e8 : j = 8
      · rw [if_pos ⟨rfl, e8⟩, if_pos e8]
      · rw [if_neg (fun x => e8 x.2), if_neg e8]
        by_cases e7 : j = 7
        · rw [if_pos ⟨rfl, e7⟩, if_pos e7]
        · rw [if_neg (fun x => e7 x.2), if_neg e7]
  have o8 : ∀ h, ¬ h = 82 → s8.1 h = s7.1 h := fun h e => by rw [g8, uI_ne _ _ _ _ e]
  have h79 : ∀ j, s8.1 79 j = s5.1 79 j := fun j => by rw [o8 79 (by decide), d8 79 (by omega), i6, if_neg (by omega)]
  refine ⟨s8, ?_, ⟨by rw [g8]; exact r7, ?_, fun h e => ?_⟩, ?_, fun h e => by rw [o8 h (by omega), lo h e], ?_⟩
  · rw [e_74]
    unfold f_74 b_74_0
    rw [xV_82, a1, bN_s, xp_82_2, ← g2, yg_15 hq, xp_82_3, ← g3, xp_82_7, ← g4, xg_82_0, xV_79, c1, bN_s, xp_82_8, ← g6, xg_82_1, xV_83, d1, bN_s, xg_82_2, r7, yg_14 hq, ymg_9 hq, show (384 : Int32) = nI 384 from rfl, wya_23 hq (by decide), lo (q + 23) (by omega), hst, xp_82_4, ← g8]
  · rw [g8]
    show s7.2.2 82 3 = q + 24
    rw [rf2, rf3, if_pos ⟨rfl, rfl⟩]
  · rw [g8]
    show s7.2.2 h = s.2.2 h
    funext j
    rw [rf2, rf3, if_neg (fun x => e x.1), if_neg (fun x => e x.1)]
  · rw [g8]
    show s7.2.1 = s.2.1
    rw [d9, g6, show (uI s5 82 (upd (s5.1 82) 8 1)).2 = s5.2 from rfl, c6, g4]
    show s3.2.1 = s.2.1
    rw [g3, g2]
    show s1.2.1 = s.2.1
    rw [a10]
  · refine ⟨⟨⟨by rw [v8, if_neg (by decide), if_pos rfl]; rfl, by rw [v8, if_neg (by decide), if_neg (by decide), if_neg (by decide), a2 9 (by omega)]; rfl, by rw [v8, if_neg (by decide), if_neg (by decide), if_neg (by decide), a2 10 (by omega)]; rfl, by rw [v8, if_neg (by decide), if_neg (by decide), if_neg (by decide), a3]; rfl⟩, ⟨by rw [v8, if_neg (by decide), if_neg (by decide), if_neg (by decide), a2 12 (by omega)]; rfl, by rw [o8 83 (by decide), d7]; rfl, by rw [v8, if_neg (by decide), if_neg (by decide), if_neg (by decide), a2 13 (by omega)]; rfl⟩, ⟨by rw [h79, c3]; rfl, by rw [h79, c2]; rfl, by rw [o8 83 (by decide), d6]; rfl⟩, ⟨by rw [h79, c4], by rw [v8, if_neg (by decide), if_neg (by decide), if_pos rfl]⟩, fun i h1 h2 => absurd h2 (Nat.not_lt_zero i)⟩, fun o o1 o2 => ?_, ⟨⟨by show s8.1 84 0 = _; rw [o8 84 (by decide), d2]; rfl, by show s8.1 85 0 = _; rw [o8 85 (by decide), d3]; rfl, by show s8.1 87 0 = _; rw [o8 87 (by decide), d4], fun v hv => by show s8.1 88 (16 * 0 + v) = 0; rw [o8 88 (by decide), show 16 * 0 + v = v by omega]; exact d5 v hv, fun g gs hg => by cases hg⟩, trivial⟩, fun f fs hf => ⟨by rw [v8, if_pos rfl], by rw [v8, if_neg (by decide), if_neg (by decide), if_neg (by decide), a2 6 (by omega)]; rfl, trivial⟩⟩
    have o2' : o ≤ 0 := o2
    omega
end MJB74
