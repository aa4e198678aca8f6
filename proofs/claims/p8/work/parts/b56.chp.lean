/-! ===== the class's OBJECTS ===== -/
section MJB56
variable {T : TT} {wm cm pc k n d i o o1 o2 c : Nat} {pf : Nat → Nat → Nat} {L : List CD} {H H' : HEAP} {f g : FRM} {fs gs : List FRM} {st : List Int32} {sc : SCL} {s s' : mjSt3} {A : AMS} {v : Int32} {ow : Nat → Nat}
theorem bs_end (T : TT) (L : List CD) (H : HEAP) (a1 : 1 ≤ o) : bsH T L H o = bsH T L H (o - 1) + 2 + nmL L (H.2 o).1 + fldT T L (H.2 o).1 := by
  have e : bsH T L H o = bsH T L H (o - 1) + szO T L (H.2 o).1 := by
    have : o = (o - 1) + 1 := by omega
    rw [this]
    rfl
  unfold szO at e
  omega
theorem bs_at (T : TT) (L : List CD) (H : HEAP) (a1 : 1 ≤ o) (a2 : o ≤ H.1) : bsH T L H (o - 1) + 2 + nmL L (H.2 o).1 + fldT T L (H.2 o).1 ≤ bsH T L H H.1 := by
  have e := bs_end T L H a1
  have g := bs_mono T L H o (H.1 - o)
  rw [show o + (H.1 - o) = H.1 by omega] at g
  omega
theorem bs_sp (T : TT) (L : List CD) (H : HEAP) (a1 : 1 ≤ o1) (a2 : o1 < o2) : bsH T L H (o1 - 1) + 2 + nmL L (H.2 o1).1 + fldT T L (H.2 o1).1 ≤ bsH T L H (o2 - 1) := by
  have e := bs_end T L H a1
  have g := bs_mono T L H o1 (o2 - 1 - o1)
  rw [show o1 + (o2 - 1 - o1) = o2 - 1 by omega] at g
  omega
/-- has -/
theorem x_43z : mjF (d + 1) 43 [.ref 79, .int 0] (mjW0 s) = some (some (.int 0), mjW0 s) := by
  rw [e_43]
  unfold f_43 b_43_0 b_43_16
  rw [if_pos (by decide)]
theorem x_43o (h2 : s.1 79 2 = nI H.1) (hH : H.1 < 100000) (a1 : 1 ≤ o) (a2 : o ≤ H.1) : mjF (d + 1) 43 [.ref 79, .int (nI o)] (mjW0 s) = some (some (.int 1), mjW0 s) := by
  rw [e_43]
  unfold f_43 b_43_0
  rw [if_neg (nI_nle (by omega) (by omega)), xg_79_2, h2, if_neg (nI_nlt a2 (by omega))]
/-- what an OBJECT's rows need -/
def HBs (T : TT) (L : List CD) (H : HEAP) : Prop := bsH T L H H.1 ≤ 4000 ∧ 3 * H.1 ≤ bsH T L H H.1
theorem HBs.lt (B : HBs T L H) (a2 : o ≤ H.1) : o < 1335 := by
  have := B.1
  have := B.2
  omega
/-- classOf -/
theorem x_46 (hH : HPc T L H s) (B : HBs T L H) (a1 : 1 ≤ o) (a2 : o ≤ H.1) : mjF (d + 1) 46 [.ref 79, .int (nI o)] (mjW0 s) = some (some (.int (nI (H.2 o).1)), mjW0 s) := by
  have b := bs_at T L H a1 a2
  have b1 := B.1
  obtain ⟨h1, h2, h3, h4, h5⟩ := hH o a1 a2
  rw [e_46]
  unfold f_46 b_46_0
  rw [xg_79_0, xg_79_1, wa_81 (B.lt a2), h1, wa_80 (by omega), h2]
/-- ownersOf -/
theorem x_48 (hH : HPc T L H s) (B : HBs T L H) (a1 : 1 ≤ o) (a2 : o ≤ H.1) : mjF (d + 1) 48 [.ref 79, .int (nI o)] (mjW0 s) = some (some (.int (nI (nmL L (H.2 o).1))), mjW0 s) := by
  have b := bs_at T L H a1 a2
  have b1 := B.1
  obtain ⟨h1, h2, h3, h4, h5⟩ := hH o a1 a2
  rw [e_48]
  unfold f_48 b_48_0
  rw [xg_79_0, xg_79_1, wa_81 (B.lt a2), h1, nI_1, wa_80 (by omega), h3]
/-- ownerAt -/
theorem x_49 (hH : HPc T L H s) (B : HBs T L H) (a1 : 1 ≤ o) (a2 : o ≤ H.1) (hi : i < nmL L (H.2 o).1) : mjF (d + 1) 49 [.ref 79, .int (nI o), .int (nI i)] (mjW0 s) = some (some (.int (nI ((H.2 o).2.1 i))), mjW0 s) := by
  have b := bs_at T L H a1 a2
  have b1 := B.1
  obtain ⟨h1, h2, h3, h4, h5⟩ := hH o a1 a2
  rw [e_49]
  unfold f_49 b_49_0
  rw [xg_79_0, xg_79_1, wa_81 (B.lt a2), h1, show nI (bsH T L H (o - 1)) + 2 + nI i = nI (bsH T L H (o - 1) + 2 + i) by rw [show (2 : Int32) = nI 2 from rfl, nI_add, nI_add], wa_80 (by omega), h4 i hi]
/-- fieldAt -/
theorem x_45 (hH : HPc T L H s) (B : HBs T L H) (a1 : 1 ≤ o) (a2 : o ≤ H.1) (hi : i < fldT T L (H.2 o).1) : mjF (d + 1) 45 [.ref 79, .int (nI o), .int (nI i)] (mjW0 s) = some (some (.int ((H.2 o).2.2 i)), mjW0 s) := by
  have b := bs_at T L H a1 a2
  have b1 := B.1
  obtain ⟨h1, h2, h3, h4, h5⟩ := hH o a1 a2
  rw [e_45]
  unfold f_45 b_45_0
  rw [xg_79_1, wa_81 (B.lt a2), h1, xg_79_0, xg_79_0, nI_1, wa_80 (by omega), h3, show nI (bsH T L H (o - 1)) + 2 + nI (nmL L (H.2 o).1) + nI i = nI (bsH T L H (o - 1) + 2 + nmL L (H.2 o).1 + i) by rw [show (2 : Int32) = nI 2 from rfl, nI_add, nI_add, nI_add], wa_80 (by omega), h5 i hi]
theorem HPc.set (h : HPc T L H s) (a1 : 1 ≤ o1) (a2 : o1 ≤ H.1) (hi : i < fldT T L (H.2 o1).1) (e1 : s'.1 81 = s.1 81) (e0 : ∀ x, s'.1 80 x = if x = bsH T L H (o1 - 1) + 2 + nmL L (H.2 o1).1 + i then v else s.1 80 x) : HPc T L (setF H o1 i v) s' := by
  intro o p1 p2
  have p2' : o ≤ H.1 := p2
  obtain ⟨h1, h2, h3, h4, h5⟩ := h o p1 p2'
  have ec : ((setF H o1 i v).2 o).1 = (H.2 o).1 := HX.set.2 o p1 p2'
  have eb : bsH T L (setF H o1 i v) (o - 1) = bsH T L H (o - 1) := bs_same (H := H) (fun o p1 p2 => HX.set.2 o p1 p2) (o - 1) (by omega)
  have ex : (setF H o1 i v).2 o = if o = o1 then ((H.2 o1).1, (H.2 o1).2.1, fun y => if y = i then v else (H.2 o1).2.2 y) else H.2 o := rfl
  have sep : ¬ o = o1 → bsH T L H (o - 1) + 2 + nmL L (H.2 o).1 + fldT T L (H.2 o).1 ≤ bsH T L H (o1 - 1) ∨ bsH T L H (o1 - 1) + 2 + nmL L (H.2 o1).1 + fldT T L (H.2 o1).1 ≤ bsH T L H (o - 1) := by
    intro ne
    by_cases q : o < o1
    · exact Or.inl (bs_sp T L H p1 q)
    · exact Or.inr (bs_sp T L H a1 (by omega))
  have ne : ∀ x, (x = bsH T L H (o - 1) ∨ x = bsH T L H (o - 1) + 1 ∨ ∃ y, y < nmL L (H.2 o).1 ∧ x = bsH T L H (o - 1) + 2 + y) → ¬ x = bsH T L H (o1 - 1) + 2 + nmL L (H.2 o1).1 + i := by
    intro x hx q
    by_cases e : o = o1
    · rw [e] at hx
      rcases hx with hx | hx | ⟨y, hy, hx⟩ <;> omega
    · rcases sep e with g | g
      · rcases hx with hx | hx | ⟨y, hy, hx⟩ <;> omega
      · rcases hx with hx | hx | ⟨y, hy, hx⟩ <;> omega
  rw [eb, ec, e1]
  refine ⟨h1, by rw [e0, if_neg (ne _ (Or.inl rfl))]; exact h2, by rw [e0, if_neg (ne _ (Or.inr (Or.inl rfl)))]; exact h3, fun y hy => ?_, fun y hy => ?_⟩
  · rw [e0, if_neg (ne _ (Or.inr (Or.inr ⟨y, hy, rfl⟩))), h4 y hy, ex]
    by_cases e : o = o1
    · rw [if_pos e, e]
    · rw [if_neg e]
  · rw [e0, ex]
    by_cases e : o = o1
    · rw [if_pos e, e]
      dsimp only
      by_cases q : y = i
      · rw [if_pos q, if_pos (by omega)]
      · rw [if_neg q, if_neg (by omega)]
        rw [e] at h5 hy
        exact h5 y hy
    · rw [if_neg e, if_neg (fun q => by rcases sep e with g | g <;> omega)]
      exact h5 y hy
theorem CRn.hps (M : CRn T L pf wm cm pc (H, f :: fs, k, st, sc) s) (e : ∀ h, 79 ≤ h ∧ h ≤ 90 → ¬ h = 80 → s'.1 h = s.1 h) (hb : bsH T L H' H'.1 = bsH T L H H.1) (hc : H'.1 = H.1) (hH : HPc T L H' s') : CRn T L pf wm cm pc (H', f :: fs, k, st, sc) s' := by
  obtain ⟨⟨⟨a1, a2, a3, a4⟩, ⟨a5, a6, a7⟩, ⟨a8, a9, a10⟩, ⟨a11, a12⟩, a13⟩, _, hF, hT⟩ := M
  have e82 := e 82 (by omega) (by omega)
  have e83 := e 83 (by omega) (by omega)
  have e79 := e 79 (by omega) (by omega)
  refine ⟨⟨⟨by rw [e82]; exact a1, by rw [e82]; exact a2, by rw [e82]; exact a3, by rw [e82]; exact a4⟩, ⟨by rw [e82]; exact a5, by rw [e83]; exact a6, by rw [e82]; exact a7⟩, ⟨by rw [e79]; exact a8.trans (congrArg nI hb.symm), by rw [e79]; exact a9.trans (congrArg nI hc.symm), by rw [e83]; exact a10⟩, ⟨by rw [e79]; exact a11, by rw [e82]; exact a12⟩, fun i h1 h2 => by rw [e 90 (by omega) (by omega)]; exact a13 i h1 h2⟩, hH, FRc.keep (fun x hx => e x (by omega) (by omega)) _ hF, fun g' gs' hg => ?_⟩
  obtain ⟨c1, c2, c3⟩ := hT f fs rfl
  exact ⟨by rw [e82]; exact c1, by rw [e82]; exact c2, STc.low _ (fun j _ => by rw [e 89 (by omega) (by omega)]) c3⟩
/-- setField -/
theorem x_44 (M : CRn T L pf wm cm pc (H, f :: fs, k, st, sc) s) (B : HBs T L H) (a1 : 1 ≤ o) (a2 : o ≤ H.1) (hi : i < fldT T L (H.2 o).1) (v : Int32) : ∃ s', mjF (d + 1) 44 [.ref 79, .int (nI o), .int (nI i), .int v] (mjW0 s) = some (none, mjW0 s') ∧ oCn s s' ∧ CRn T L pf wm cm pc (setF H o i v, f :: fs, k, st, sc) s' := by
  have b := bs_at T L H a1 a2
  have b1 := B.1
  obtain ⟨h1, h2, h3, h4, h5⟩ := M.2.1 o a1 a2
  obtain ⟨z1, g1⟩ : ∃ y, y = uI s 80 (upd (s.1 80) (bsH T L H (o - 1) + 2 + nmL L (H.2 o).1 + i) v) := ⟨_, rfl⟩
  have r1 : ∀ h, ¬ h = 80 → z1.1 h = s.1 h := fun h e => by rw [g1]; exact uI_ne _ _ _ _ e
  refine ⟨z1, ?_, by rw [g1]; exact oCn.wr (by omega), M.hps (fun h _ e => r1 h e) (bs_same (H := H) (fun o p1 p2 => HX.set.2 o p1 p2) H.1 (Nat.le_refl _)) rfl (M.2.1.set a1 a2 hi (r1 81 (by decide)) (fun x => by rw [g1, uI_same, upd_g]))⟩
  have h1' : s.1 81 o = nI (bsH T L H (o - 1)) := h1
  have h3' : s.1 80 (bsH T L H (o - 1) + 1) = nI (nmL L (H.2 o).1) := h3
  rw [e_44]
  unfold f_44 b_44_0
  rw [xg_79_1, wa_81 (B.lt a2), h1', xg_79_0, xg_79_0, nI_1, wa_80 (by omega), h3', show nI (bsH T L H (o - 1)) + 2 + nI (nmL L (H.2 o).1) + nI i = nI (bsH T L H (o - 1) + 2 + nmL L (H.2 o).1 + i) by rw [show (2 : Int32) = nI 2 from rfl, nI_add, nI_add, nI_add], ws_80 (by omega), ← g1]
end MJB56
