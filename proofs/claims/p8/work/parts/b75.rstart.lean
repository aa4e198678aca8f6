/-! ===== start, the reference ===== -/
def oRs : mjSt3 → mjSt3 → Prop := offG (fun h j => chRn h j ∨ (h = 97 ∧ j = 126)) (fun _ _ => False)
section MJB75
variable {T : TT} {d b wm cm : Nat} {t : PT} {s : mjSt3}
theorem L340_S (R : mjR) (n a : Nat) (i : Int32) (hp : mjH) : L_340_121 R (n + 1) a i hp = b_340_121 R (L_340_121 R n) a i hp := rfl
theorem lq_340 (R : mjR) (hb : b ≤ 1) : ∀ (r i n : Nat) (s : mjSt3), i + r = 16 → r < n → (∀ v, v < i → s.1 175 v = 0) → s.1 97 9 = nI b → ∃ s', L_340_121 R n 97 (nI i) (mjW0 s) = some (some (.int 1), mjW0 s') ∧ (∀ v, v < 16 → s'.1 175 v = 0) ∧ s'.1 97 119 = s.1 123 b ∧ (∀ h, ¬ (h = 97 ∨ h = 175) → s'.1 h = s.1 h) ∧ (∀ j, ¬ (j = 119 ∨ j = 126) → s'.1 97 j = s.1 97 j) ∧ s'.2 = s.2 ∧ s'.1 97 126 = 0
  | r, i, 0, s, e, hr, hv, h9 => by omega
  | 0, i, n + 1, s, e, hr, hv, h9 => by
    have ei : i = 16 := by omega
    subst ei
    obtain ⟨z1, g1⟩ : ∃ y, y = uI s 97 (upd (s.1 97) 119 (s.1 123 b)) := ⟨_, rfl⟩
    obtain ⟨z2, g2⟩ : ∃ y, y = uI z1 97 (upd (z1.1 97) 126 0) := ⟨_, rfl⟩
    have rr : ∀ h, ¬ h = 97 → z2.1 h = s.1 h := fun h e => by rw [g2, uI_ne _ _ _ _ e, g1, uI_ne _ _ _ _ e]
    have v97 : ∀ j, z2.1 97 j = if j = 126 then 0 else if j = 119 then s.1 123 b else s.1 97 j := fun j => by rw [g2, uI_same, upd_g, g1, uI_same, upd_g]
    refine ⟨z2, ?_, fun v hh => by rw [rr 175 (by decide)]; exact hv v hh, by rw [v97, if_neg (by decide), if_pos rfl], fun h e => rr h (by omega), fun j e => by rw [v97, if_neg (by omega), if_neg (by omega)], by rw [g2, g1]; rfl, by rw [v97, if_pos rfl]⟩
    rw [L340_S]
    unfold b_340_121
    rw [if_pos (show (16 : Int32) ≤ nI 16 by decide), xg_97_34, xg_97_9, h9, wa_123 (by omega), xp_97_119, ← g1, xp_97_126 (by decide), ← g2]
  | r + 1, i, n + 1, s, e, hr, hv, h9 => by
    obtain ⟨z1, g1⟩ : ∃ y, y = uI s 175 (upd (s.1 175) i 0) := ⟨_, rfl⟩
    have rr : ∀ h, ¬ h = 175 → z1.1 h = s.1 h := fun h e => by rw [g1, uI_ne _ _ _ _ e]
    have v1 : ∀ j, z1.1 175 j = if j = i then 0 else s.1 175 j := fun j => by rw [g1, uI_same, upd_g]
    obtain ⟨s', a1, a2, a3, a4, a5, a6, a7⟩ := lq_340 R hb r (i + 1) n z1 (by omega) (by omega) (fun v hv' => by
      rw [v1]
      by_cases q : v = i
      · rw [if_pos q]
      · rw [if_neg q]; exact hv v (by omega)) (by rw [rr 97 (by decide)]; exact h9)
    refine ⟨s', ?_, a2, by rw [a3, rr 123 (by decide)], fun h e => by rw [a4 h e, rr h (by omega)], fun j e => by rw [a5 j e, rr 97 (by decide)], by rw [a6, g1]; rfl, a7⟩
    rw [L340_S]
    unfold b_340_121
    rw [if_neg (show ¬ (16 : Int32) ≤ nI i from nI_ge (b := 16) (by omega) (by decide)), xg_97_115, ws_175 (by omega), ← g1, nI_1]
    exact a1

/-- start -/
theorem x_340 (hb : b ≤ 1) (h10 : s.1 97 10 = 1) (h9 : s.1 97 9 = nI b) (w8 : 8 ≤ wm) (wm4 : wm ≤ 4000) (c1 : 1 ≤ cm) (cm4 : cm ≤ 40) (h123 : s.1 123 b = nI (i0T t 384)) : ∃ s', mjF (d + 1) 340 [.ref 97, .int (nI wm), .int (nI cm)] (mjW0 s) = some (some (.int 1), mjW0 s') ∧ MRn T t b wm cm aBeg s' ∧ oRs s s' ∧ s'.1 97 126 = 0 := by
  obtain ⟨z1, g1⟩ : ∃ y, y = uI s 97 (upd (s.1 97) 96 (1)) := ⟨_, rfl⟩
  obtain ⟨z2, g2⟩ : ∃ y, y = uI z1 97 (upd (z1.1 97) 97 (0)) := ⟨_, rfl⟩
  obtain ⟨z3, g3⟩ : ∃ y, y = uI z2 97 (upd (z2.1 97) 98 (0)) := ⟨_, rfl⟩
  obtain ⟨z4, g4⟩ : ∃ y, y = uI z3 97 (upd (z3.1 97) 99 (-1)) := ⟨_, rfl⟩
  obtain ⟨z5, g5⟩ : ∃ y, y = uI z4 97 (upd (z4.1 97) 100 (0)) := ⟨_, rfl⟩
  obtain ⟨z6, g6⟩ : ∃ y, y = uI z5 97 (upd (z5.1 97) 101 (nI wm)) := ⟨_, rfl⟩
  obtain ⟨z7, g7⟩ : ∃ y, y = uI z6 97 (upd (z6.1 97) 102 (0)) := ⟨_, rfl⟩
  obtain ⟨z8, g8⟩ : ∃ y, y = uI z7 97 (upd (z7.1 97) 103 (0)) := ⟨_, rfl⟩
  obtain ⟨z9, g9⟩ : ∃ y, y = uI z8 97 (upd (z8.1 97) 104 (nI cm)) := ⟨_, rfl⟩
  obtain ⟨z10, g10⟩ : ∃ y, y = uI z9 97 (upd (z9.1 97) 105 (1)) := ⟨_, rfl⟩
  obtain ⟨z11, g11⟩ : ∃ y, y = uI z10 97 (upd (z10.1 97) 106 (0)) := ⟨_, rfl⟩
  obtain ⟨z12, g12⟩ : ∃ y, y = uI z11 97 (upd (z11.1 97) 116 (1)) := ⟨_, rfl⟩
  obtain ⟨z13, g13⟩ : ∃ y, y = uI z12 97 (upd (z12.1 97) 118 (0)) := ⟨_, rfl⟩
  obtain ⟨z14, g14⟩ : ∃ y, y = uI z13 171 (upd (z13.1 171) 0 (-1)) := ⟨_, rfl⟩
  obtain ⟨z15, g15⟩ : ∃ y, y = uI z14 172 (upd (z14.1 172) 0 (0)) := ⟨_, rfl⟩
  obtain ⟨z16, g16⟩ : ∃ y, y = uI z15 173 (upd (z15.1 173) 0 (-1)) := ⟨_, rfl⟩
  have v97 : ∀ j, z16.1 97 j = if j = 118 then (0) else if j = 116 then (1) else if j = 106 then (0) else if j = 105 then (1) else if j = 104 then (nI cm) else if j = 103 then (0) else if j = 102 then (0) else if j = 101 then (nI wm) else if j = 100 then (0) else if j = 99 then (-1) else if j = 98 then (0) else if j = 97 then (0) else if j = 96 then (1) else s.1 97 j := fun j => by rw [g16, uI_ne _ _ _ _ (by decide), g15, uI_ne _ _ _ _ (by decide), g14, uI_ne _ _ _ _ (by decide), g13, uI_same, upd_g, g12, uI_same, upd_g, g11, uI_same, upd_g, g10, uI_same, upd_g, g9, uI_same, upd_g, g8, uI_same, upd_g, g7, uI_same, upd_g, g6, uI_same, upd_g, g5, uI_same, upd_g, g4, uI_same, upd_g, g3, uI_same, upd_g, g2, uI_same, upd_g, g1, uI_same, upd_g]
  have rr : ∀ h, ¬ (h = 97 ∨ (171 ≤ h ∧ h ≤ 173)) → z16.1 h = s.1 h := fun h e => by rw [g16, uI_ne _ _ _ _ (by omega), g15, uI_ne _ _ _ _ (by omega), g14, uI_ne _ _ _ _ (by omega), g13, uI_ne _ _ _ _ (by omega), g12, uI_ne _ _ _ _ (by omega), g11, uI_ne _ _ _ _ (by omega), g10, uI_ne _ _ _ _ (by omega), g9, uI_ne _ _ _ _ (by omega), g8, uI_ne _ _ _ _ (by omega), g7, uI_ne _ _ _ _ (by omega), g6, uI_ne _ _ _ _ (by omega), g5, uI_ne _ _ _ _ (by omega), g4, uI_ne _ _ _ _ (by omega), g3, uI_ne _ _ _ _ (by omega), g2, uI_ne _ _ _ _ (by omega), g1, uI_ne _ _ _ _ (by omega)]
  have h9' : z16.1 97 9 = nI b := by rw [v97]; exact h9
  have v171 : z16.1 171 0 = -1 := by rw [g16, uI_ne _ _ _ _ (by decide), g15, uI_ne _ _ _ _ (by decide), g14, uI_same, upd_g, if_pos rfl]
  have v172 : z16.1 172 0 = 0 := by rw [g16, uI_ne _ _ _ _ (by decide), g15, uI_same, upd_g, if_pos rfl]
  have v173 : z16.1 173 0 = -1 := by rw [g16, uI_same, upd_g, if_pos rfl]
  have lz : z16.2 = s.2 := by rw [g16, g15, g14, g13, g12, g11, g10, g9, g8, g7, g6, g5, g4, g3, g2, g1]; rfl
  obtain ⟨s', a1, a2, a3, a4, a5, a6, a7⟩ := lq_340 (mjF d) hb 16 0 mjN z16 (by omega) (by unfold mjN; omega) (fun v hv => absurd hv (Nat.not_lt_zero v)) h9'
  have u : ∀ j, ¬ (j = 119 ∨ j = 126) → s'.1 97 j = z16.1 97 j := a5
  have r5 : ∀ h, ¬ (h = 97 ∨ h = 175) → s'.1 h = z16.1 h := a4
  refine ⟨s', ?_, ?_, ?_, a7⟩
  · rw [e_340]
    unfold f_340 b_340_0
    rw [xg_97_10, h10, if_neg (show ¬ ((1 : Int32) = 0) by decide), if_neg (show ¬ nI wm < (8 : Int32) from nI_nlt (b := 8) w8 (by omega)), if_neg (show ¬ (4000 : Int32) < nI wm from nI_nlt (a := 4000) wm4 (by omega)), if_neg (show ¬ nI cm < (1 : Int32) from nI_nlt (b := 1) c1 (by omega)), if_pos (show nI cm ≤ (40 : Int32) from nI_le (b := 40) cm4 (by omega)), xp_97_96, ← g1, xp_97_97, ← g2, xp_97_98, ← g3, xp_97_99, ← g4, xp_97_100, ← g5, xp_97_101, ← g6, xp_97_102, ← g7, xp_97_103, ← g8, xp_97_104, ← g9, xp_97_105, ← g10, xp_97_106, ← g11, xp_97_116, ← g12, xp_97_118, ← g13, xg_97_111, show sI (mjW0 z13) 171 (0 : Int32) = sI (mjW0 z13) 171 (nI 0) from rfl, ws_171 (show 0 < 40 by decide), ← g14, xg_97_112, show sI (mjW0 z14) 172 (0 : Int32) = sI (mjW0 z14) 172 (nI 0) from rfl, ws_172 (show 0 < 40 by decide), ← g15, xg_97_113, show sI (mjW0 z15) 173 (0 : Int32) = sI (mjW0 z15) 173 (nI 0) from rfl, ws_173 (show 0 < 40 by decide), ← g16]
    exact a1
  · have f : ∀ j x, ¬ (j = 119 ∨ j = 126) → z16.1 97 j = x → s'.1 97 j = x := fun j x hj hx => (u j hj).trans hx
    refine ⟨⟨⟨f 96 _ (by omega) (by rw [v97]; rfl), f 97 _ (by omega) (by rw [v97]; rfl), f 98 _ (by omega) (by rw [v97]; rfl), f 99 _ (by omega) (by rw [v97]; rfl)⟩, ⟨f 100 _ (by omega) (by rw [v97]; rfl), f 105 _ (by omega) (by rw [v97]; rfl), f 106 _ (by omega) (by rw [v97]; rfl)⟩, ⟨f 102 _ (by omega) (by rw [v97]; rfl), f 103 _ (by omega) (by rw [v97]; rfl), f 116 _ (by omega) (by rw [v97]; rfl)⟩, ⟨f 101 _ (by omega) (by rw [v97]; rfl), f 104 _ (by omega) (by rw [v97]; rfl)⟩, fun i h1 h2 => absurd h2 (Nat.not_lt_zero i)⟩, fun o o1 o2 => ?_, ⟨⟨by show s'.1 171 0 = _; rw [r5 171 (by omega), v171]; rfl, by show s'.1 172 0 = _; rw [r5 172 (by omega), v172]; rfl, by show s'.1 173 0 = _; rw [r5 173 (by omega), v173], fun v hv => by show s'.1 175 (16 * 0 + v) = 0; rw [show 16 * 0 + v = v by omega]; exact a2 v hv, fun g gs hg => by cases hg⟩, trivial⟩, fun f0 fs hf => ⟨?_, f 118 _ (by omega) (by rw [v97]; rfl), trivial⟩⟩
    · have o2' : o ≤ 0 := o2
      omega
    · have e0 : (384, 0, -1, (fun _ => 0), 0) = f0 := (List.cons.inj hf).1
      rw [← e0, a3, rr 123 (by omega), h123]
      rfl
  · refine offG_of (fun h j e => ?_) (by rw [a6, lz])
    by_cases e97 : h = 97
    · subst e97
      have e' : ¬ (j = 95 ∨ (96 ≤ j ∧ j ≤ 106) ∨ j = 116 ∨ j = 118 ∨ j = 119) := fun x => e (Or.inl (Or.inl ⟨rfl, x⟩))
      have e2 : ¬ j = 126 := fun x => e (Or.inr ⟨rfl, x⟩)
      rw [u j (by omega), v97]
      rw [if_neg (by omega), if_neg (by omega), if_neg (by omega), if_neg (by omega), if_neg (by omega), if_neg (by omega), if_neg (by omega), if_neg (by omega), if_neg (by omega), if_neg (by omega), if_neg (by omega), if_neg (by omega), if_neg (by omega)]
    · have e' : ¬ (167 ≤ h ∧ h ≤ 176) := fun x => e (Or.inl (Or.inr (Or.inr (Or.inr (Or.inl x)))))
      rw [r5 h (by omega), rr h (by omega)]
end MJB75
