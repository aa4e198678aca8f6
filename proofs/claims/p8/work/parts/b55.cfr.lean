/-! ===== the class's CALLS ===== -/
section MJB55
variable {T : TT} {wm cm pc k n d : Nat} {pf : Nat → Nat → Nat} {L : List CD} {H : HEAP} {f g : FRM} {fs gs : List FRM} {st : List Int32} {sc : SCL} {s s' : mjSt3} {A : AMS} {v : Int32}
/-- top -/
theorem x_38 (M : CRn T L pf wm cm pc (H, f :: fs, k, st, sc) s) (hl : fs.length < 40) : mjF (d + 2) 38 [.ref 83] (mjW0 s) = some (some (.int (nI fs.length)), mjW0 s) := by
  have h0 : s.1 83 0 = nI (fs.length + 1) := M.1.2.2.1.2.2
  rw [e_38]
  unfold f_38 b_38_0
  rw [xg_83_0, h0, show nI (fs.length + 1) - 1 = nI fs.length from nI_pred fs.length, q_max, if_pos (show (0 : Int32) ≤ nI fs.length from nI_le (a := 0) (Nat.zero_le _) (by omega)), bI_s]
/-- variableAt -/
theorem x_39 (M : CRn T L pf wm cm pc (H, f :: fs, k, st, sc) s) (hl : fs.length < 40) {x : Nat} (hx : x < 16) : mjF (d + 1) 39 [.ref 83, .int (nI fs.length), .int (nI x)] (mjW0 s) = some (some (.int (f.2.2.2.1 x)), mjW0 s) := by
  rw [e_39]
  unfold f_39 b_39_0
  rw [xg_83_6, show nI fs.length * 16 + nI x = nI (16 * fs.length + x) by rw [show (16 : Int32) = nI 16 from rfl, nI_mul, nI_add, Nat.mul_comm], wa_88 (by omega), M.2.2.1.1.2.2.2.1 x hx]
theorem CRn.frm (M : CRn T L pf wm cm pc (H, f :: fs, k, st, sc) s) (e : ∀ h, 79 ≤ h ∧ h ≤ 90 → ¬ (84 ≤ h ∧ h ≤ 88) → s'.1 h = s.1 h) (hF : FRc pf s' (g :: fs)) : CRn T L pf wm cm pc (H, g :: fs, k, st, sc) s' := by
  obtain ⟨⟨⟨a1, a2, a3, a4⟩, ⟨a5, a6, a7⟩, ⟨a8, a9, a10⟩, ⟨a11, a12⟩, a13⟩, hH, _, hT⟩ := M
  have e82 := e 82 (by omega) (by omega)
  have e83 := e 83 (by omega) (by omega)
  have e79 := e 79 (by omega) (by omega)
  refine ⟨⟨⟨by rw [e82]; exact a1, by rw [e82]; exact a2, by rw [e82]; exact a3, by rw [e82]; exact a4⟩, ⟨by rw [e82]; exact a5, by rw [e83]; exact a6, by rw [e82]; exact a7⟩, ⟨by rw [e79]; exact a8, by rw [e79]; exact a9, by rw [e83]; exact a10⟩, ⟨by rw [e79]; exact a11, by rw [e82]; exact a12⟩, fun i h1 h2 => by rw [e 90 (by omega) (by omega)]; exact a13 i h1 h2⟩, hH.keep (fun x hx => e x (by omega) (by omega)), hF, fun g' gs' hg => ?_⟩
  obtain ⟨c1, c2, c3⟩ := hT f fs rfl
  exact ⟨by rw [e82]; exact c1, by rw [e82]; exact c2, STc.low _ (fun j _ => by rw [e 89 (by omega) (by omega)]) c3⟩
/-- setVariable -/
theorem x_40 (M : CRn T L pf wm cm pc (H, f :: fs, k, st, sc) s) (hl : fs.length < 40) {x : Nat} (hx : x < 16) (v : Int32) : ∃ s', mjF (d + 3) 40 [.ref 83, .int (nI x), .int v] (mjW0 s) = some (none, mjW0 s') ∧ oCn s s' ∧ CRn T L pf wm cm pc (H, setV f x v :: fs, k, st, sc) s' := by
  obtain ⟨z1, g1⟩ : ∃ y, y = uI s 88 (upd (s.1 88) (16 * fs.length + x) v) := ⟨_, rfl⟩
  have r1 : ∀ h, ¬ h = 88 → z1.1 h = s.1 h := fun h e => by rw [g1]; exact uI_ne _ _ _ _ e
  have v88 : ∀ j, z1.1 88 j = if j = 16 * fs.length + x then v else s.1 88 j := fun j => by rw [g1, uI_same, upd_g]
  obtain ⟨⟨b1, b2', b3, b4, b5⟩, b6⟩ := M.2.2.1
  refine ⟨z1, ?_, by rw [g1]; exact oCn.wr (by omega), M.frm (fun h h1 h2 => r1 h (by omega)) ⟨⟨by rw [r1 84 (by decide)]; exact b1, by rw [r1 85 (by decide)]; exact b2', by rw [r1 87 (by decide)]; exact b3, fun y hy => ?_, fun g gs hg => by rw [r1 86 (by decide)]; exact b5 g gs hg⟩, FRc.low (n := fs.length) (fun h j h1 h2 => by rw [r1 h (by omega)]) (fun j hj => by rw [v88, if_neg (by omega)]) fs (Nat.le_refl _) b6⟩⟩
  · rw [e_40]
    unfold f_40 b_40_0
    rw [xg_83_6, xV_83, x_38 M hl, bI_s, show nI fs.length * 16 + nI x = nI (16 * fs.length + x) by rw [show (16 : Int32) = nI 16 from rfl, nI_mul, nI_add, Nat.mul_comm], ws_88 (by omega), ← g1]
  · rw [v88]
    show _ = if y = x then v else f.2.2.2.1 y
    by_cases q : y = x
    · rw [if_pos q, if_pos (by omega)]
    · rw [if_neg q, if_neg (by omega)]; exact b4 y hy
/-- sayNumber -/
theorem x_83 (M : CRn T L pf wm cm pc (H, f :: fs, k, st, sc) s) (hs : sc.2.1 < 100000000) (v : Int32) : ∃ s', mjF (d + 1) 83 [.ref 82, .int v] (mjW0 s) = some (none, mjW0 s') ∧ oCn s s' ∧ CRn T L pf wm cm pc (H, f :: fs, k, st, sc.1, sc.2.1 + 1, (fun i => if i = sc.2.1 ∧ i < 200 then v else sc.2.2.1 i), sc.2.2.2) s' := by
  obtain ⟨⟨⟨a1, a2, a3, a4⟩, ⟨a5, a6, a7⟩, ⟨a8, a9, a10⟩, ⟨a11, a12⟩, a13⟩, hH, hF, hT⟩ := M
  have h13 : s.1 82 13 = nI sc.2.1 := a7
  obtain ⟨z1, g1⟩ : ∃ y, y = (if 200 ≤ sc.2.1 then s else uI s 90 (upd (s.1 90) sc.2.1 v)) := ⟨_, rfl⟩
  obtain ⟨z2, g2⟩ : ∃ y, y = uI z1 82 (upd (z1.1 82) 13 (nI (sc.2.1 + 1))) := ⟨_, rfl⟩
  have r1 : ∀ h, ¬ h = 90 → z1.1 h = s.1 h := by
    intro h e
    rw [g1]
    by_cases q : 200 ≤ sc.2.1
    · rw [if_pos q]
    · rw [if_neg q]; exact uI_ne _ _ _ _ e
  have o1 : oCn s z1 := by
    rw [g1]
    by_cases q : 200 ≤ sc.2.1
    · rw [if_pos q]; exact offG.rf
    · rw [if_neg q]; exact oCn.wr (by omega)
  have rr : ∀ h, ¬ (h = 82 ∨ h = 90) → z2.1 h = s.1 h := fun h e => by rw [g2, uI_ne _ _ _ _ (by omega), r1 h (by omega)]
  have v82 : ∀ j, z2.1 82 j = if j = 13 then nI (sc.2.1 + 1) else s.1 82 j := fun j => by rw [g2, uI_same, upd_g, r1 82 (by decide)]
  have n : ∀ j, ¬ j = 13 → z2.1 82 j = s.1 82 j := fun j hj => by rw [v82, if_neg hj]
  refine ⟨z2, ?_, offG.tr o1 (by rw [g2]; exact oCn.wr (by omega)), ⟨⟨by rw [n 8 (by omega)]; exact a1, by rw [n 9 (by omega)]; exact a2, by rw [n 10 (by omega)]; exact a3, by rw [n 11 (by omega)]; exact a4⟩, ⟨by rw [n 12 (by omega)]; exact a5, by rw [rr 83 (by omega)]; exact a6, by rw [v82, if_pos rfl]⟩, ⟨by rw [rr 79 (by omega)]; exact a8, by rw [rr 79 (by omega)]; exact a9, by rw [rr 83 (by omega)]; exact a10⟩, ⟨by rw [rr 79 (by omega)]; exact a11, by rw [n 7 (by omega)]; exact a12⟩, fun i h1 h2 => ?_⟩, hH.keep (fun x hx => rr x (by omega)), FRc.keep (fun x hx => rr x (by omega)) _ hF, fun g gs hg => ?_⟩
  · rw [e_83]
    unfold f_83 b_83_0 b_83_20
    rw [xg_82_13, h13]
    by_cases q : 200 ≤ sc.2.1
    · rw [if_pos (show (200 : Int32) ≤ nI sc.2.1 from nI_le (a := 200) q (by omega))]
      rw [if_pos q] at g1
      rw [xg_82_13, h13, xp_82_13, nI_1, g2, g1]
    · rw [if_neg (show ¬ (200 : Int32) ≤ nI sc.2.1 from nI_ge (b := 200) (by omega) (by decide))]
      rw [if_neg q] at g1
      rw [xg_82_14, xg_82_13, h13, ws_90 (by omega), ← g1, xg_82_13, r1 82 (by decide), h13, xp_82_13, nI_1, g2]
  · show z2.1 90 i = if i = sc.2.1 ∧ i < 200 then v else sc.2.2.1 i
    have h2' : i < sc.2.1 + 1 := h2
    rw [g2, uI_ne _ _ _ _ (by decide), g1]
    by_cases q : 200 ≤ sc.2.1
    · rw [if_pos q, if_neg (by omega)]
      exact a13 i h1 (show i < sc.2.1 by omega)
    · rw [if_neg q, uI_same, upd_g]
      by_cases e : i = sc.2.1
      · rw [if_pos e, if_pos ⟨e, h1⟩]
      · rw [if_neg e, if_neg (fun x => e x.1)]
        exact a13 i h1 (show i < sc.2.1 by omega)
  · obtain ⟨c1, c2, c3⟩ := hT g gs hg
    exact ⟨by rw [n 4 (by omega)]; exact c1, by rw [n 6 (by omega)]; exact c2, STc.low _ (fun j _ => by rw [rr 89 (by omega)]) c3⟩
/-- giveBack ahead of main's end -/
theorem x_84n (M : CRn T L pf wm cm pc (H, [f], k, st, sc) s) (v : Int32) : ∃ s', mjF (d + 3) 84 [.ref 82, .int v] (mjW0 s) = some (none, mjW0 s') ∧ oCn s s' ∧ ∀ pc', CRn T L pf wm cm pc' (aRet (H, [f], k, st, sc) f [] v) s' := by
  have x38 := x_38 (d := d) M (show ([] : List FRM).length < 40 by decide)
  obtain ⟨⟨⟨a1, a2, a3, a4⟩, ⟨a5, a6, a7⟩, ⟨a8, a9, a10⟩, ⟨a11, a12⟩, a13⟩, hH, hF, hT⟩ := M
  obtain ⟨z1, g1⟩ : ∃ y, y = uI s 83 (upd (s.1 83) 0 0) := ⟨_, rfl⟩
  obtain ⟨z2, g2⟩ : ∃ y, y = uI z1 82 (upd (z1.1 82) 8 2) := ⟨_, rfl⟩
  obtain ⟨z3, g3⟩ : ∃ y, y = uI z2 82 (upd (z2.1 82) 9 v) := ⟨_, rfl⟩
  have rr : ∀ h, ¬ (h = 82 ∨ h = 83) → z3.1 h = s.1 h := fun h e => by rw [g3, uI_ne _ _ _ _ (by omega), g2, uI_ne _ _ _ _ (by omega), g1, uI_ne _ _ _ _ (by omega)]
  have v82 : ∀ j, z3.1 82 j = if j = 9 then v else if j = 8 then 2 else s.1 82 j := fun j => by rw [g3, uI_same, upd_g, g2, uI_same, upd_g, g1, uI_ne _ _ _ _ (by decide)]
  have v83 : ∀ j, z3.1 83 j = if j = 0 then 0 else s.1 83 j := fun j => by rw [g3, uI_ne _ _ _ _ (by decide), g2, uI_ne _ _ _ _ (by decide), g1, uI_same, upd_g]
  have n : ∀ j, ¬ (j = 9 ∨ j = 8) → z3.1 82 j = s.1 82 j := fun j hj => by rw [v82, if_neg (by omega), if_neg (by omega)]
  refine ⟨z3, ?_, offG.tr (b := z1) (by rw [g1]; exact oCn.wr (by omega)) (offG.tr (b := z2) (by rw [g2]; exact oCn.wr (by omega)) (by rw [g3]; exact oCn.wr (by omega))), fun pc' => ⟨⟨⟨by rw [v82, if_neg (by decide), if_pos rfl]; rfl, by rw [v82, if_pos rfl]; rfl, by rw [n 10 (by omega)]; exact a3, by rw [n 11 (by omega)]; exact a4⟩, ⟨by rw [n 12 (by omega)]; exact a5, by rw [v83, if_neg (by decide)]; exact a6, by rw [n 13 (by omega)]; exact a7⟩, ⟨by rw [rr 79 (by omega)]; exact a8, by rw [rr 79 (by omega)]; exact a9, by rw [v83, if_pos rfl]; rfl⟩, ⟨by rw [rr 79 (by omega)]; exact a11, by rw [n 7 (by omega)]; exact a12⟩, fun i h1 h2 => by rw [rr 90 (by omega)]; exact a13 i h1 h2⟩, hH.keep (fun y hy => rr y (by omega)), trivial, fun g gs hg => by cases hg⟩⟩
  rw [e_84]
  unfold f_84 b_84_0
  rw [xg_82_1, xV_83, x38, bI_s, xg_82_1, show nI ([] : List FRM).length = 0 from rfl, xp_83_0, ← g1, if_pos rfl, xp_82_8, ← g2, xp_82_9, ← g3]
/-- giveBack to a CALL that waits -/
theorem x_84c (M : CRn T L pf wm cm pc (H, f :: g :: gs, k, st, sc) s) (hl : gs.length + 1 < 40) (hs : st.length < 5120) (v : Int32) : ∃ s', mjF (d + 3) 84 [.ref 82, .int v] (mjW0 s) = some (none, mjW0 s') ∧ oCn s s' ∧ CRn T L pf wm cm (pf g.1 f.2.2.2.2) (aRet (H, f :: g :: gs, k, st, sc) f (g :: gs) v) s' := by
  have x38 := x_38 (d := d) M hl
  obtain ⟨⟨⟨a1, a2, a3, a4⟩, ⟨a5, a6, a7⟩, ⟨a8, a9, a10⟩, ⟨a11, a12⟩, a13⟩, hH, hF, hT⟩ := M
  obtain ⟨⟨b1, b2', b3, b4, b5⟩, b6⟩ := hF
  have b5' := b5 g gs rfl
  obtain ⟨z1, g1⟩ : ∃ y, y = uI s 83 (upd (s.1 83) 0 (nI (g :: gs).length)) := ⟨_, rfl⟩
  obtain ⟨z2, g2⟩ : ∃ y, y = uI z1 82 (upd (z1.1 82) 4 (nI (pf g.1 f.2.2.2.2))) := ⟨_, rfl⟩
  have rr : ∀ h, ¬ (h = 82 ∨ h = 83) → z2.1 h = s.1 h := fun h e => by rw [g2, uI_ne _ _ _ _ (by omega), g1, uI_ne _ _ _ _ (by omega)]
  have v82 : ∀ j, z2.1 82 j = if j = 4 then nI (pf g.1 f.2.2.2.2) else s.1 82 j := fun j => by rw [g2, uI_same, upd_g, g1, uI_ne _ _ _ _ (by decide)]
  have v83 : ∀ j, z2.1 83 j = if j = 0 then nI (g :: gs).length else s.1 83 j := fun j => by rw [g2, uI_ne _ _ _ _ (by decide), g1, uI_same, upd_g]
  have n : ∀ j, ¬ j = 4 → z2.1 82 j = s.1 82 j := fun j hj => by rw [v82, if_neg hj]
  have M2 : CRn T L pf wm cm (pf g.1 f.2.2.2.2) (H, g :: gs, f.2.2.2.2, st, sc) z2 := by
    refine ⟨⟨⟨by rw [n 8 (by omega)]; exact a1, by rw [n 9 (by omega)]; exact a2, by rw [n 10 (by omega)]; exact a3, by rw [n 11 (by omega)]; exact a4⟩, ⟨by rw [n 12 (by omega)]; exact a5, by rw [v83, if_neg (by decide)]; exact a6, by rw [n 13 (by omega)]; exact a7⟩, ⟨by rw [rr 79 (by omega)]; exact a8, by rw [rr 79 (by omega)]; exact a9, by rw [v83, if_pos rfl]⟩, ⟨by rw [rr 79 (by omega)]; exact a11, by rw [n 7 (by omega)]; exact a12⟩, fun i h1 h2 => by rw [rr 90 (by omega)]; exact a13 i h1 h2⟩, hH.keep (fun y hy => rr y (by omega)), FRc.keep (fun x hx => rr x (by omega)) _ b6, fun g' gs' hg => ?_⟩
    obtain ⟨c1, c2, c3⟩ := hT f (g :: gs) rfl
    exact ⟨by rw [v82, if_pos rfl], by rw [n 6 (by omega)]; exact c2, STc.low _ (fun j _ => by rw [rr 89 (by omega)]) c3⟩
  obtain ⟨s', e1, e2, e3⟩ := x_79 (d := d + 1) M2 hs v
  refine ⟨s', ?_, offG.tr (b := z1) (by rw [g1]; exact oCn.wr (by omega)) (offG.tr (b := z2) (by rw [g2]; exact oCn.wr (by omega)) e2), e3⟩
  have z : ¬ nI (g :: gs).length = 0 := fun q => by
    have := (nI_eq (a := (g :: gs).length) (b := 0) (by have : (g :: gs).length = gs.length + 1 := rfl; omega) (by omega)).mp q
    cases this
  rw [e_84]
  unfold f_84 b_84_0
  rw [xg_82_1, xV_83, x38, bI_s, xg_82_1, xp_83_0, ← g1, if_neg z, xg_82_1, xg_83_4, wa_86 (show (g :: gs).length < 40 from hl), g1, uI_ne _ _ _ _ (by decide), b5', ← g1, xp_82_4, ← g2, xV_82, e1, bN_s]
end MJB55
