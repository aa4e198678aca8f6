/-! ===== the class's RUN: new ===== -/
section MJB58
variable {T : TT} {N wm cm pc k n d i o q w x kk c : Nat} {pf : Nat → Nat → Nat} {L : List CD} {H H' : HEAP} {f g : FRM} {fs gs : List FRM} {st : List Int32} {sc : SCL} {s s' : mjSt3} {A : AMS} {v : Int32} {ow ow' : Nat → Nat}
theorem bs_ad (h : o ≤ H.1) : bsH T L (addO H c ow) o = bsH T L H o := bs_same (H := H) (fun o p1 p2 => HX.add.2 o p1 p2) o h
theorem bs_ad1 : bsH T L (addO H c ow) (addO H c ow).1 = bsH T L H H.1 + szO T L c := by
  show bsH T L (addO H c ow) H.1 + szO T L ((addO H c ow).2 (H.1 + 1)).1 = _
  rw [bs_ad (Nat.le_refl _)]
  have : (addO H c ow).2 (H.1 + 1) = (c, ow, fun _ => 0) := if_pos rfl
  rw [this]
theorem HPc.add (h : HPc T L H s) (e1 : ∀ x, s'.1 81 x = if x = H.1 + 1 then nI (bsH T L H H.1) else s.1 81 x) (e0a : s'.1 80 (bsH T L H H.1) = nI c) (e0b : s'.1 80 (bsH T L H H.1 + 1) = nI (nmL L c)) (e0c : ∀ i, i < nmL L c → s'.1 80 (bsH T L H H.1 + 2 + i) = nI (ow i)) (e0d : ∀ i, i < fldT T L c → s'.1 80 (bsH T L H H.1 + 2 + nmL L c + i) = 0) (e0e : ∀ x, x < bsH T L H H.1 → s'.1 80 x = s.1 80 x) : HPc T L (addO H c ow) s' := by
  intro o p1 p2
  have p2' : o ≤ H.1 + 1 := p2
  have ex : (addO H c ow).2 o = if o = H.1 + 1 then (c, ow, fun _ => 0) else H.2 o := rfl
  rw [bs_ad (show o - 1 ≤ H.1 by omega), ex, e1]
  by_cases e : o = H.1 + 1
  · rw [if_pos e, e, if_pos rfl, show H.1 + 1 - 1 = H.1 from rfl]
    exact ⟨rfl, e0a, e0b, e0c, e0d⟩
  · rw [if_neg e, if_neg e]
    obtain ⟨h1, h2, h3, h4, h5⟩ := h o p1 (by omega)
    have sep := bs_at T L H p1 (show o ≤ H.1 by omega)
    exact ⟨h1, by rw [e0e _ (by omega)]; exact h2, by rw [e0e _ (by omega)]; exact h3, fun x hx => by rw [e0e _ (by omega)]; exact h4 x hx, fun x hx => by rw [e0e _ (by omega)]; exact h5 x hx⟩
theorem HPc.res (h : HPc T L (addO H c ow) s) : HPc T L H s := by
  intro o p1 p2
  have := h o p1 (show o ≤ H.1 + 1 by omega)
  have ex : (addO H c ow).2 o = H.2 o := if_neg (by omega)
  rw [ex, bs_ad (show o - 1 ≤ H.1 by omega)] at this
  exact this
theorem HPc.last (h : HPc T L (addO H c ow) s) : s.1 81 (H.1 + 1) = nI (bsH T L H H.1) ∧ s.1 80 (bsH T L H H.1) = nI c ∧ s.1 80 (bsH T L H H.1 + 1) = nI (nmL L c) ∧ (∀ i, i < nmL L c → s.1 80 (bsH T L H H.1 + 2 + i) = nI (ow i)) ∧ ∀ i, i < fldT T L c → s.1 80 (bsH T L H H.1 + 2 + nmL L c + i) = 0 := by
  have := h (H.1 + 1) (by omega) (Nat.le_refl _)
  have ex : (addO H c ow).2 (H.1 + 1) = (c, ow, fun _ => 0) := if_pos rfl
  rw [ex, show H.1 + 1 - 1 = H.1 from rfl, bs_ad (Nat.le_refl _)] at this
  exact this
theorem CRn.hpn (M : CRn T L pf wm cm pc (H, f :: fs, k, st, sc) s) (e : ∀ h, 79 ≤ h ∧ h ≤ 90 → ¬ (79 ≤ h ∧ h ≤ 81) → s'.1 h = s.1 h) (e3 : s'.1 79 3 = nI (bsH T L H' H'.1)) (e2 : s'.1 79 2 = nI H'.1) (e4 : s'.1 79 4 = s.1 79 4) (hH : HPc T L H' s') : CRn T L pf wm cm pc (H', f :: fs, k, st, sc) s' := by
  obtain ⟨⟨⟨a1, a2, a3, a4⟩, ⟨a5, a6, a7⟩, ⟨a8, a9, a10⟩, ⟨a11, a12⟩, a13⟩, _, hF, hT⟩ := M
  have e82 := e 82 (by omega) (by omega)
  have e83 := e 83 (by omega) (by omega)
  refine ⟨⟨⟨by rw [e82]; exact a1, by rw [e82]; exact a2, by rw [e82]; exact a3, by rw [e82]; exact a4⟩, ⟨by rw [e82]; exact a5, by rw [e83]; exact a6, by rw [e82]; exact a7⟩, ⟨e3, e2, by rw [e83]; exact a10⟩, ⟨by rw [e4]; exact a11, by rw [e82]; exact a12⟩, fun i h1 h2 => by rw [e 90 (by omega) (by omega)]; exact a13 i h1 h2⟩, hH, FRc.keep (fun x hx => e x (by omega) (by omega)) _ hF, fun g' gs' hg => ?_⟩
  obtain ⟨c1, c2, c3⟩ := hT f fs rfl
  exact ⟨by rw [e82]; exact c1, by rw [e82]; exact c2, STc.low _ (fun j _ => by rw [e 89 (by omega) (by omega)]) c3⟩
/-- make -/
theorem x_47 (M : CRn T L pf wm cm pc (H, f :: fs, k, st, sc) s) (B : HBs T L H) (hw : bsH T L H H.1 ≤ wm) (wm4 : wm ≤ 4000) (hc : c < 16) (n5 : 1 ≤ nmL L c ∧ nmL L c ≤ 5) (hf : fldT T L c ≤ 384) : (wm < bsH T L H H.1 + szO T L c → mjF (d + 3) 47 [.ref 79, .int (nI c), .int (nI (nmL L c)), .int (nI (fldT T L c))] (mjW0 s) = some (some (.int 0), mjW0 s)) ∧ (¬ wm < bsH T L H H.1 + szO T L c → ∃ s', mjF (d + 3) 47 [.ref 79, .int (nI c), .int (nI (nmL L c)), .int (nI (fldT T L c))] (mjW0 s) = some (some (.int (nI (H.1 + 1))), mjW0 s') ∧ oCn s s' ∧ CRn T L pf wm cm pc (addO H c (fun _ => 0), f :: fs, k, st, sc) s') := by
  have h3 : s.1 79 3 = nI (bsH T L H H.1) := M.1.2.2.1.1
  have h2 : s.1 79 2 = nI H.1 := M.1.2.2.1.2.1
  have h4 : s.1 79 4 = nI wm := M.1.2.2.2.1.1
  have hHp : HPc T L H s := M.2.1
  have hb := B.1
  have hb2 := B.2
  have sz : szO T L c = 2 + nmL L c + fldT T L c := rfl
  have need : (2 : Int32) + nI (nmL L c) + nI (fldT T L c) = nI (szO T L c) := by rw [show (2 : Int32) = nI 2 from rfl, nI_add, nI_add, sz]
  have sub : nI wm - nI (bsH T L H H.1) = nI (wm - bsH T L H H.1) := by
    have e : wm = (wm - bsH T L H H.1) + bsH T L H H.1 := by omega
    rw [e, ← nI_add, Int32.add_sub_cancel, show wm - bsH T L H H.1 + bsH T L H H.1 - bsH T L H H.1 = wm - bsH T L H H.1 by omega]
  refine ⟨fun g => ?_, fun g => ?_⟩
  · rw [e_47]
    unfold f_47 b_47_0 b_47_31
    rw [xg_79_4, xg_79_3, h4, h3, need, sub, if_pos (nI_lt (by omega) (by omega))]
  · obtain ⟨z1, g1⟩ : ∃ y, y = uI s 79 (upd (s.1 79) 2 (nI (H.1 + 1))) := ⟨_, rfl⟩
    obtain ⟨z2, g2⟩ : ∃ y, y = uI z1 81 (upd (z1.1 81) (H.1 + 1) (nI (bsH T L H H.1))) := ⟨_, rfl⟩
    obtain ⟨z3, g3⟩ : ∃ y, y = uI z2 80 (upd (z2.1 80) (bsH T L H H.1) (nI c)) := ⟨_, rfl⟩
    obtain ⟨z4, g4⟩ : ∃ y, y = uI z3 80 (upd (z3.1 80) (bsH T L H H.1 + 1) (nI (nmL L c))) := ⟨_, rfl⟩
    obtain ⟨z5, g5⟩ : ∃ y, y = uI z4 80 (fillF (z4.1 80) (bsH T L H H.1 + 2) (bsH T L H H.1 + szO T L c) 0) := ⟨_, rfl⟩
    obtain ⟨z6, g6⟩ : ∃ y, y = uI z5 79 (upd (z5.1 79) 3 (nI (bsH T L H H.1 + szO T L c))) := ⟨_, rfl⟩
    have r79 : ∀ h, h = z2 ∨ h = z3 ∨ h = z4 ∨ h = z5 → h.1 79 = z1.1 79 := by
      intro h hh
      rcases hh with hh | hh | hh | hh
      · rw [hh, g2, uI_ne _ _ _ _ (by decide)]
      · rw [hh, g3, uI_ne _ _ _ _ (by decide), g2, uI_ne _ _ _ _ (by decide)]
      · rw [hh, g4, uI_ne _ _ _ _ (by decide), g3, uI_ne _ _ _ _ (by decide), g2, uI_ne _ _ _ _ (by decide)]
      · rw [hh, g5, uI_ne _ _ _ _ (by decide), g4, uI_ne _ _ _ _ (by decide), g3, uI_ne _ _ _ _ (by decide), g2, uI_ne _ _ _ _ (by decide)]
    have v1 : ∀ x, z1.1 79 x = if x = 2 then nI (H.1 + 1) else s.1 79 x := fun x => by rw [g1, uI_same, upd_g]
    have v6 : ∀ x, z6.1 79 x = if x = 3 then nI (bsH T L H H.1 + szO T L c) else if x = 2 then nI (H.1 + 1) else s.1 79 x := fun x => by rw [g6, uI_same, upd_g, r79 z5 (by simp), v1]
    have w81 : ∀ x, z6.1 81 x = if x = H.1 + 1 then nI (bsH T L H H.1) else s.1 81 x := fun x => by rw [g6, uI_ne _ _ _ _ (by decide), g5, uI_ne _ _ _ _ (by decide), g4, uI_ne _ _ _ _ (by decide), g3, uI_ne _ _ _ _ (by decide), g2, uI_same, upd_g, g1, uI_ne _ _ _ _ (by decide)]
    have w80 : ∀ x, z6.1 80 x = if bsH T L H H.1 + 2 ≤ x ∧ x < bsH T L H H.1 + szO T L c then 0 else if x = bsH T L H H.1 + 1 then nI (nmL L c) else if x = bsH T L H H.1 then nI c else s.1 80 x := fun x => by
      rw [g6, uI_ne _ _ _ _ (by decide), g5, uI_same]
      show (if bsH T L H H.1 + 2 ≤ x ∧ x < bsH T L H H.1 + szO T L c then 0 else z4.1 80 x) = _
      rw [g4, uI_same, upd_g, g3, uI_same, upd_g, g2, uI_ne _ _ _ _ (by decide), g1, uI_ne _ _ _ _ (by decide)]
    have rr : ∀ h, ¬ (79 ≤ h ∧ h ≤ 81) → z6.1 h = s.1 h := fun h e => by rw [g6, uI_ne _ _ _ _ (by omega), g5, uI_ne _ _ _ _ (by omega), g4, uI_ne _ _ _ _ (by omega), g3, uI_ne _ _ _ _ (by omega), g2, uI_ne _ _ _ _ (by omega), g1, uI_ne _ _ _ _ (by omega)]
    refine ⟨z6, ?_, offG.tr (b := z1) (by rw [g1]; exact oCn.wr (by omega)) (offG.tr (b := z2) (by rw [g2]; exact oCn.wr (by omega)) (offG.tr (b := z3) (by rw [g3]; exact oCn.wr (by omega)) (offG.tr (b := z4) (by rw [g4]; exact oCn.wr (by omega)) (offG.tr (b := z5) (by rw [g5]; exact oCn.wr (by omega)) (by rw [g6]; exact oCn.wr (by omega)))))), M.hpn (fun h _ e => rr h e) (by rw [v6, if_pos rfl, bs_ad1]) (by rw [v6, if_neg (by decide), if_pos rfl]; rfl) (by rw [v6, if_neg (by decide), if_neg (by decide)]) (hHp.add w81 (by rw [w80, if_neg (by omega), if_neg (by omega), if_pos rfl]) (by rw [w80, if_neg (by omega), if_pos rfl]) (fun x hx => by rw [w80, if_pos (by omega)]; rfl) (fun x hx => by rw [w80, if_pos (by omega)]) (fun x hx => by rw [w80, if_neg (by omega), if_neg (by omega), if_neg (by omega)]))⟩
    rw [e_47]
    unfold f_47 b_47_0
    rw [xg_79_4, xg_79_3, h4, h3, need, sub, if_neg (nI_nlt (by omega) (by omega)), xg_79_2, h2, if_pos (show nI H.1 < (1334 : Int32) from nI_lt (b := 1334) (by omega) (by decide)), xg_79_2, h2, nI_1, xp_79_2, ← g1, xg_79_1, xg_79_2, v1, if_pos rfl, xg_79_3, v1, if_neg (show ¬ 3 = 2 by decide), h3, ws_81 (by omega), ← g2, xg_79_0, xg_79_3, r79 z2 (by simp), v1, if_neg (show ¬ 3 = 2 by decide), h3, ws_80 (by omega), ← g3, xg_79_0, xg_79_3, r79 z3 (by simp), v1, if_neg (show ¬ 3 = 2 by decide), h3, nI_1, ws_80 (by omega), ← g4, xg_79_0, xg_79_3, xg_79_3, r79 z4 (by simp), v1, if_neg (show ¬ 3 = 2 by decide), h3, show (2 : Int32) = nI 2 from rfl, nI_add, nI_add, q_379 tT_80 (by decide) (by omega) (by omega), bN_s, ← g5, xg_79_3, r79 z5 (by simp), v1, if_neg (show ¬ 3 = 2 by decide), h3, nI_add, xp_79_3, ← g6, xg_79_2, v6, if_neg (by decide), if_pos rfl]
end MJB58
