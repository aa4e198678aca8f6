/-! ===== start, on both ===== -/
section MJB80
variable {i : Nat} {s s' : mjSt3} {a c : Int32}
theorem start_cn (h : s.1 0 8 = 0 ∨ a < 8 ∨ 4000 < a ∨ c < 1 ∨ ¬ c ≤ 40) : mjF 1999 210 [.ref 0, .int a, .int c] (mjW0 s) = some (some (.int 0), mjW0 s) := by
  rw [show (1999 : Nat) = 1998 + 1 from rfl, e_210]
  unfold f_210 b_210_0 b_210_31
  rw [xg_0_8]
  by_cases h0 : s.1 0 8 = 0
  · rw [if_pos h0]
  rw [if_neg h0]
  by_cases h1 : a < 8
  · rw [if_pos h1]
  rw [if_neg h1]
  by_cases h2 : 4000 < a
  · rw [if_pos h2]
  rw [if_neg h2]
  by_cases h3 : c < 1
  · rw [if_pos h3]
  rw [if_neg h3, if_neg ((((h.resolve_left h0).resolve_left h1).resolve_left h2).resolve_left h3)]
theorem start_rn (h : s.1 97 10 = 0 ∨ a < 8 ∨ 4000 < a ∨ c < 1 ∨ ¬ c ≤ 40) : mjF 1999 340 [.ref 97, .int a, .int c] (mjW0 s) = some (some (.int 0), mjW0 s) := by
  rw [show (1999 : Nat) = 1998 + 1 from rfl, e_340]
  unfold f_340 b_340_0 b_340_31
  rw [xg_97_10]
  by_cases h0 : s.1 97 10 = 0
  · rw [if_pos h0]
  rw [if_neg h0]
  by_cases h1 : a < 8
  · rw [if_pos h1]
  rw [if_neg h1]
  by_cases h2 : 4000 < a
  · rw [if_pos h2]
  rw [if_neg h2]
  by_cases h3 : c < 1
  · rw [if_pos h3]
  rw [if_neg h3, if_neg ((((h.resolve_left h0).resolve_left h1).resolve_left h2).resolve_left h3)]
/-- there is a PROGRAM on both, or on none -/
theorem Inv.has (h : Inv i s) : (s.1 0 8 = 0 ∧ s.1 97 10 = 0) ∨ (s.1 0 8 = 1 ∧ s.1 97 10 = 1) := by
  rcases h.2 with ⟨h1, h2, _⟩ | ⟨T, N, b, q, t, rs, kb, z, tr, cs, G, _⟩
  · exact Or.inl ⟨h1, h2⟩
  · exact Or.inr ⟨G.1.2.2.2.2, G.1.2.2.1⟩
theorem pair_start (h : Inv i s) (a c : Int32) : PairOK (Inv (i + 1)) 210 340 [.int a, .int c] s := by
  by_cases hn : s.1 0 8 = 0 ∨ a < 8 ∨ 4000 < a ∨ c < 1 ∨ ¬ c ≤ 40
  · refine ⟨0, s, s, start_cn hn, start_rn ?_, h.mono (by omega)⟩
    rcases hn with hn | hn
    · rcases h.has with e | e
      · exact Or.inl e.2
      · rw [e.1] at hn; exact absurd hn (by decide)
    · exact Or.inr hn
  have a0 : ¬ s.1 0 8 = 0 := fun x => hn (Or.inl x)
  have a1 : ¬ a < 8 := fun x => hn (Or.inr (Or.inl x))
  have a2 : ¬ 4000 < a := fun x => hn (Or.inr (Or.inr (Or.inl x)))
  have a3 : ¬ c < 1 := fun x => hn (Or.inr (Or.inr (Or.inr (Or.inl x))))
  have a4 : c ≤ 40 := Classical.byContradiction (fun x => hn (Or.inr (Or.inr (Or.inr (Or.inr x)))))
  obtain ⟨hB, hP⟩ := h
  rcases hP with ⟨h0, _⟩ | ⟨T, N, b, q, t, rs, kb, z, tr, cs, G, hR⟩
  · exact absurd h0 a0
  obtain ⟨wm, wm4, ew⟩ := nI_of2 (x := a) (M := 4000) (n := 4000) rfl (fun x => a1 (Int32.lt_trans x (by decide))) (Int32.not_lt.mp a2)
  obtain ⟨cm, cm4, ec⟩ := nI_of2 (x := c) (M := 40) (n := 40) rfl (fun x => a3 (Int32.lt_trans x (by decide))) a4
  have w8 : 8 ≤ wm := by
    by_cases g : wm < 8
    · exact absurd (show a < 8 by rw [ew]; exact nI_lt (b := 8) g (by decide)) a1
    · omega
  have c1 : 1 ≤ cm := by
    by_cases g : cm < 1
    · exact absurd (show c < 1 by rw [ec]; exact nI_lt (b := 1) g (by decide)) a3
    · omega
  have hq := G.isq
  obtain ⟨⟨g1, g2, g3, g4, g5⟩, ⟨P, Y, h384, hHB⟩, hJ, hPG, hC, hV⟩ := id G
  have hst : s.1 (q + 23) 384 = nI (pfC T t rs z tr (800 * b) cs 384 0) := by
    obtain ⟨sz, _, _, Gc⟩ := hC
    rw [(Gc 384 (Nat.le_refl _) rfl).1]
    rfl
  obtain ⟨s1, b1, ⟨b2', b3, b4⟩, b5, b6, b7⟩ := x_74 (d := 1994) (T := T) (L := t.1) (wm := wm) (cm := cm) (pf := pfC T t rs z tr (800 * b) cs) hPG.1.1 hst
  obtain ⟨s2, e2⟩ : ∃ y, y = uR s1 91 (updR (s1.2.2 91) 1 q) := ⟨_, rfl⟩
  obtain ⟨s3, e3⟩ : ∃ y, y = uI s2 91 (upd (s2.1 91) 5 0) := ⟨_, rfl⟩
  have i2 : s2.1 = s1.1 := by rw [e2]; rfl
  have f3 : ∀ h, ¬ (79 ≤ h ∧ h ≤ 91) → s3.1 h = s.1 h := fun h e => by rw [e3, uI_ne _ _ _ _ (by omega), i2, b6 h (by omega)]
  have l3 : s3.2.1 = s.2.1 := by
    rw [e3]
    show s2.2.1 = _
    rw [e2]
    exact b5
  have w3 : ∀ h, ¬ (h = 82 ∨ h = 91) → s3.2.2 h = s.2.2 h := fun h e => by
    rw [e3]
    show s2.2.2 h = _
    rw [e2, uR_ne _ _ _ _ (by omega)]
    exact b4 h (by omega)
  have w82 : s3.2.2 82 = s1.2.2 82 := by
    rw [e3]
    show s2.2.2 82 = _
    rw [e2, uR_ne _ _ _ _ (by decide)]
  have w91 : s3.2.2 91 1 = q := by
    rw [e3]
    show s2.2.2 91 1 = q
    rw [e2, uR_same]
    exact if_pos rfl
  have J3 : JKP T N b t rs z tr s3 := hJ.lo (fun h hh => f3 h (by omega)) (fun h _ => by rw [l3])
  obtain ⟨s4, d1, d2, d3, d4⟩ := x_340 (d := 1998) (T := T) (t := t) (s := s3) g1 (by rw [f3 97 (by omega)]; exact g3) (by rw [f3 97 (by omega)]; exact g2) w8 wm4 c1 cm4 ((J3.rpg hHB).2.2.2.2.1)
  have f4 : ∀ h, h < 97 → s4.1 h = s3.1 h := fun h e => funext fun j => d3.1 h j (fun x => by unfold chRn at x; omega)
  have l4 : s4.2.1 = s.2.1 := (funext fun h => funext fun j => d3.2.1 h j (fun x => x)).trans l3
  have r4 : s4.2.2 = s3.2.2 := d3.2.2
  have u4 : ∀ j, j < 95 → s4.1 97 j = s.1 97 j := fun j e => by rw [d3.1 97 j (fun x => by unfold chRn at x; omega), f3 97 (by omega)]
  have J4 : JKP T N b t rs z tr s4 := J3.keep (fun h j x => d3.1 h j (fun y => by have := inB_nr x; unfold chRn at y; omega)) (fun h j _ => d3.2.1 h j (fun x => x))
  refine ⟨1, s3, s4, ?_, ?_, ?_, Or.inr ⟨T, N, b, q, t, rs, kb, z, tr, cs, ?_, Or.inr ⟨wm, cm, aBeg, ⟨wm4, cm4⟩, ⟨by decide, by decide, by decide, Nat.zero_le _⟩, ⟨aBeg_ok c1, aBeg_y⟩, ?_, d2, ?_, ?_, ?_⟩⟩⟩
  · rw [show (1999 : Nat) = 1998 + 1 from rfl, e_210]
    unfold f_210 b_210_0
    rw [xg_0_8, if_neg a0, if_neg a1, if_neg a2, if_neg a3, if_pos a4, xg_0_12, xg_0_6, g4, xV_82, ew, ec, b1, bN_s, xg_0_13, xg_0_6, b4 0 (by decide), g4, xV_91, show (1998 : Nat) = 1997 + 1 from rfl, e_184]
    unfold f_184 b_184_0
    rw [xp_91_1, ← e2, xp_91_5 (by decide), ← e3, bN_s]
  · rw [ew, ec]
    exact d1
  · exact hB.keep (by rw [f4 0 (by omega), f3 0 (by omega)]) (by rw [f4 1 (by omega), f3 1 (by omega)]) ⟨u4 1 (by omega), u4 9 (by omega)⟩ (by rw [show s4.1 98 = s3.1 98 from funext fun j => d3.1 98 j (fun x => by unfold chRn at x; omega), f3 98 (by omega)]) ⟨by rw [l4], by rw [l4]⟩ (by rw [r4, w3 0 (by omega)]) (by rw [r4, w91]; exact hPG.1.1)
  · exact G.keep ⟨u4 9 (by omega), u4 10 (by omega)⟩ ⟨by rw [r4, w3 0 (by omega)], by rw [f4 0 (by omega), f3 0 (by omega)]⟩ (fun _ => J4) (fun h hh => by rw [f4 h (by omega), f3 h (by omega)]) (fun h _ => by rw [l4])
  · exact b7.hi (fun h hh => by rw [f4 h (by omega), e3, uI_ne _ _ _ _ (by omega), i2])
  · exact ⟨by rw [r4, w82]; exact b2', by rw [r4, w82]; exact b3, by rw [r4]; exact w91⟩
  · exact Or.inl (by rw [f4 91 (by omega), e3, uI_same, upd_g, if_pos rfl])
  · exact Or.inl d4
end MJB80
