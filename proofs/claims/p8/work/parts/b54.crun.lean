/-! ===== the class's RUN: its rows against the pure one ===== -/
def FRc (pf : Nat → Nat → Nat) (s : mjSt3) : List FRM → Prop
  | [] => True
  | f :: fs => (s.1 84 fs.length = nI f.1 ∧ s.1 85 fs.length = nI f.2.1 ∧ s.1 87 fs.length = f.2.2.1 ∧ (∀ v, v < 16 → s.1 88 (16 * fs.length + v) = f.2.2.2.1 v) ∧ ∀ g gs, fs = g :: gs → s.1 86 fs.length = nI (pf g.1 f.2.2.2.2)) ∧ FRc pf s fs
def STc (s : mjSt3) : List Int32 → Prop
  | [] => True
  | v :: st => s.1 89 st.length = v ∧ STc s st
def HPc (T : TT) (L : List CD) (H : HEAP) (s : mjSt3) : Prop := ∀ o, 1 ≤ o → o ≤ H.1 → s.1 81 o = nI (bsH T L H (o - 1)) ∧ s.1 80 (bsH T L H (o - 1)) = nI (H.2 o).1 ∧ s.1 80 (bsH T L H (o - 1) + 1) = nI (nmL L (H.2 o).1) ∧ (∀ i, i < nmL L (H.2 o).1 → s.1 80 (bsH T L H (o - 1) + 2 + i) = nI ((H.2 o).2.1 i)) ∧ ∀ i, i < fldT T L (H.2 o).1 → s.1 80 (bsH T L H (o - 1) + 2 + nmL L (H.2 o).1 + i) = (H.2 o).2.2 i
def SCc (T : TT) (L : List CD) (wm cm : Nat) (A : AMS) (s : mjSt3) : Prop := (s.1 82 8 = nI A.2.2.2.2.2.2.2.2.1 ∧ s.1 82 9 = A.2.2.2.2.2.2.2.2.2.1 ∧ s.1 82 10 = A.2.2.2.2.2.2.2.2.2.2.1 ∧ s.1 82 11 = A.2.2.2.2.2.2.2.2.2.2.2) ∧ (s.1 82 12 = nI A.2.2.2.2.2.2.2.1 ∧ s.1 83 1 = nI A.2.2.2.2.1 ∧ s.1 82 13 = nI A.2.2.2.2.2.1) ∧ (s.1 79 3 = nI (bsH T L A.1 A.1.1) ∧ s.1 79 2 = nI A.1.1 ∧ s.1 83 0 = nI A.2.1.length) ∧ (s.1 79 4 = nI wm ∧ s.1 82 7 = nI cm) ∧ ∀ i, i < 200 → i < A.2.2.2.2.2.1 → s.1 90 i = A.2.2.2.2.2.2.1 i
def CRn (T : TT) (L : List CD) (pf : Nat → Nat → Nat) (wm cm pc : Nat) (A : AMS) (s : mjSt3) : Prop := SCc T L wm cm A s ∧ HPc T L A.1 s ∧ FRc pf s A.2.1 ∧ ∀ f fs, A.2.1 = f :: fs → s.1 82 4 = nI pc ∧ s.1 82 6 = nI A.2.2.2.1.length ∧ STc s A.2.2.2.1
/-- all that the class's RUN changes -/
def chCn (h : Nat) (_ : Nat) : Prop := 79 ≤ h ∧ h ≤ 90
def oCn : mjSt3 → mjSt3 → Prop := offG chCn (fun _ _ => False)
section MJB54
variable {T : TT} {wm cm pc k n d : Nat} {pf : Nat → Nat → Nat} {L : List CD} {H : HEAP} {f : FRM} {fs : List FRM} {st : List Int32} {sc : SCL} {s s' : mjSt3} {A : AMS} {v : Int32}
theorem oCn.wr {h : Nat} {g : Nat → Int32} (hh : 79 ≤ h ∧ h ≤ 90) : oCn s (uI s h g) := offG_of (fun h' j e => by rw [uI_ne _ _ _ _ (fun q => e (by rw [q]; exact hh))]) rfl
theorem FRc.keep (e : ∀ h, 84 ≤ h ∧ h ≤ 88 → s'.1 h = s.1 h) : ∀ (fs : List FRM), FRc pf s fs → FRc pf s' fs
  | [], _ => trivial
  | f :: fs, ⟨⟨a1, a2, a3, a4, a5⟩, a6⟩ => ⟨⟨by rw [e 84 (by omega)]; exact a1, by rw [e 85 (by omega)]; exact a2, by rw [e 87 (by omega)]; exact a3, fun v hv => by rw [e 88 (by omega)]; exact a4 v hv, fun g gs h => by rw [e 86 (by omega)]; exact a5 g gs h⟩, FRc.keep e fs a6⟩
/-- the CALLS below a number -/
theorem FRc.low (e : ∀ h j, 84 ≤ h ∧ h ≤ 87 → j < n → s'.1 h j = s.1 h j) (e5 : ∀ j, j < 16 * n → s'.1 88 j = s.1 88 j) : ∀ (fs : List FRM), fs.length ≤ n → FRc pf s fs → FRc pf s' fs
  | [], _, _ => trivial
  | f :: fs, hl, ⟨⟨a1, a2, a3, a4, a5⟩, a6⟩ => by
    have hl' : fs.length + 1 ≤ n := hl
    exact ⟨⟨by rw [e 84 _ (by omega) (by omega)]; exact a1, by rw [e 85 _ (by omega) (by omega)]; exact a2, by rw [e 87 _ (by omega) (by omega)]; exact a3, fun v hv => by rw [e5 _ (by omega)]; exact a4 v hv, fun g gs h => by rw [e 86 _ (by omega) (by omega)]; exact a5 g gs h⟩, FRc.low e e5 fs (by omega) a6⟩
theorem STc.low : ∀ (st : List Int32), (∀ j, j < st.length → s'.1 89 j = s.1 89 j) → STc s st → STc s' st
  | [], _, _ => trivial
  | v :: st, e, h => ⟨by rw [e _ (Nat.lt_succ_self _)]; exact h.1, STc.low st (fun j hj => e j (Nat.lt_succ_of_lt hj)) h.2⟩
theorem STc.at : ∀ (st : List Int32) (i : Nat), STc s st → i < st.length → s.1 89 (st.length - 1 - i) = st[i]?.getD 0
  | [], i, _, h => by cases h
  | v :: st, 0, h, _ => by
    show s.1 89 (st.length + 1 - 1 - 0) = v
    rw [show st.length + 1 - 1 - 0 = st.length by omega]
    exact h.1
  | v :: st, i + 1, h, hi => by
    have hi' : i < st.length := Nat.lt_of_succ_lt_succ hi
    have := STc.at st i h.2 hi'
    show s.1 89 (st.length + 1 - 1 - (i + 1)) = st[i]?.getD 0
    rw [show st.length + 1 - 1 - (i + 1) = st.length - 1 - i by omega]
    exact this
theorem STc.drop : ∀ (st : List Int32) (i : Nat), STc s st → STc s (st.drop i)
  | st, 0, h => h
  | [], i + 1, h => h
  | v :: st, i + 1, h => STc.drop st i h.2
theorem HPc.keep (h : HPc T L H s) (e : ∀ x, x = 80 ∨ x = 81 → s'.1 x = s.1 x) : HPc T L H s' := by
  intro o o1 o2
  obtain ⟨a1, a2, a3, a4, a5⟩ := h o o1 o2
  exact ⟨by rw [e 81 (by omega)]; exact a1, by rw [e 80 (by omega)]; exact a2, by rw [e 80 (by omega)]; exact a3, fun i hi => by rw [e 80 (by omega)]; exact a4 i hi, fun i hi => by rw [e 80 (by omega)]; exact a5 i hi⟩
/-- the values changed, nothing else -/
theorem CRn.vals (M : CRn T L pf wm cm pc (H, f :: fs, k, st, sc) s) (e82 : ∀ j, ¬ j = 6 → s'.1 82 j = s.1 82 j) (er : ∀ h, 79 ≤ h ∧ h ≤ 90 → ¬ (h = 82 ∨ h = 89) → s'.1 h = s.1 h) {st' : List Int32} (h8 : s'.1 82 6 = nI st'.length) (hS : STc s' st') : CRn T L pf wm cm pc (H, f :: fs, k, st', sc) s' := by
  obtain ⟨⟨⟨a1, a2, a3, a4⟩, ⟨a5, a6, a7⟩, ⟨a8, a9, a10⟩, ⟨a11, a12⟩, a13⟩, hH, hF, hT⟩ := M
  refine ⟨⟨⟨by rw [e82 8 (by omega)]; exact a1, by rw [e82 9 (by omega)]; exact a2, by rw [e82 10 (by omega)]; exact a3, by rw [e82 11 (by omega)]; exact a4⟩, ⟨by rw [e82 12 (by omega)]; exact a5, by rw [er 83 (by omega) (by omega)]; exact a6, by rw [e82 13 (by omega)]; exact a7⟩, ⟨by rw [er 79 (by omega) (by omega)]; exact a8, by rw [er 79 (by omega) (by omega)]; exact a9, by rw [er 83 (by omega) (by omega)]; exact a10⟩, ⟨by rw [er 79 (by omega) (by omega)]; exact a11, by rw [e82 7 (by omega)]; exact a12⟩, fun i h1 h2 => by rw [er 90 (by omega) (by omega)]; exact a13 i h1 h2⟩, hH.keep (fun x hx => er x (by omega) (by omega)), FRc.keep (fun x hx => er x (by omega) (by omega)) _ hF, fun g gs hg => ⟨?_, h8, hS⟩⟩
  rw [e82 4 (by omega)]
  exact (hT g gs hg).1
/-- push -/
theorem x_79 (M : CRn T L pf wm cm pc (H, f :: fs, k, st, sc) s) (hl : st.length < 5120) (v : Int32) : ∃ s', mjF (d + 1) 79 [.ref 82, .int v] (mjW0 s) = some (none, mjW0 s') ∧ oCn s s' ∧ CRn T L pf wm cm pc (H, f :: fs, k, v :: st, sc) s' := by
  obtain ⟨h9, h8, hS⟩ := M.2.2.2 f fs rfl
  have h8' : s.1 82 6 = nI st.length := h8
  obtain ⟨z1, g1⟩ : ∃ y, y = uI s 89 (upd (s.1 89) st.length v) := ⟨_, rfl⟩
  obtain ⟨z2, g2⟩ : ∃ y, y = uI z1 82 (upd (z1.1 82) 6 (nI (st.length + 1))) := ⟨_, rfl⟩
  have r1 : ∀ h, ¬ h = 89 → z1.1 h = s.1 h := fun h e => by rw [g1]; exact uI_ne _ _ _ _ e
  have r2 : ∀ h, ¬ h = 82 → z2.1 h = z1.1 h := fun h e => by rw [g2]; exact uI_ne _ _ _ _ e
  have v82 : ∀ j, z2.1 82 j = if j = 6 then nI (st.length + 1) else s.1 82 j := fun j => by rw [g2, uI_same, upd_g, r1 82 (by decide)]
  have v89 : ∀ j, z2.1 89 j = if j = st.length then v else s.1 89 j := fun j => by rw [r2 89 (by decide), g1, uI_same, upd_g]
  refine ⟨z2, ?_, offG.tr (b := z1) (by rw [g1]; exact oCn.wr (by omega)) (by rw [g2]; exact oCn.wr (by omega)), M.vals (fun j hj => by rw [v82, if_neg hj]) (fun h hh he => by rw [r2 h (by omega), r1 h (by omega)]) (by rw [v82, if_pos rfl]; rfl) ⟨by rw [v89, if_pos rfl], STc.low st (fun j hj => by rw [v89, if_neg (by omega)]) hS⟩⟩
  rw [e_79]
  unfold f_79 b_79_0
  rw [xg_82_6, xg_82_5, xN_89, h8', if_neg (show ¬ Int32.ofNat 5120 ≤ nI st.length from nI_ge (b := 5120) hl (by decide)), xg_82_5, xg_82_6, h8', ws_89 hl, ← g1, xg_82_6, r1 82 (by decide), h8', xp_82_6, nI_1, ← g2]
/-- pop -/
theorem x_80 (M : CRn T L pf wm cm pc (H, f :: fs, k, v :: st, sc) s) (hl : st.length < 5120) : ∃ s', mjF (d + 1) 80 [.ref 82] (mjW0 s) = some (some (.int v), mjW0 s') ∧ oCn s s' ∧ CRn T L pf wm cm pc (H, f :: fs, k, st, sc) s' := by
  obtain ⟨h9, h8, hS⟩ := M.2.2.2 f fs rfl
  have h8' : s.1 82 6 = nI (st.length + 1) := h8
  have hS' : s.1 89 st.length = v ∧ STc s st := hS
  obtain ⟨z1, g1⟩ : ∃ y, y = uI s 82 (upd (s.1 82) 6 (nI st.length)) := ⟨_, rfl⟩
  have r1 : ∀ h, ¬ h = 82 → z1.1 h = s.1 h := fun h e => by rw [g1]; exact uI_ne _ _ _ _ e
  have v82 : ∀ j, z1.1 82 j = if j = 6 then nI st.length else s.1 82 j := fun j => by rw [g1, uI_same, upd_g]
  refine ⟨z1, ?_, by rw [g1]; exact oCn.wr (by omega), M.vals (fun j hj => by rw [v82, if_neg hj]) (fun h hh he => by rw [r1 h (by omega)]) (by rw [v82, if_pos rfl]) (STc.low st (fun j hj => by rw [r1 89 (by decide)]) hS'.2)⟩
  rw [e_80]
  unfold f_80 b_80_0 b_80_17
  rw [xg_82_6, h8', if_neg (nI_nle (by omega) (by omega)), xg_82_6, h8', show nI (st.length + 1) - 1 = nI st.length from nI_pred st.length, xp_82_6, ← g1, xg_82_5, xg_82_6, v82, if_pos rfl, wa_89 hl, r1 89 (by decide), hS'.1]
/-- a TROUBLE ends the RUN -/
theorem x_82 (M : CRn T L pf wm cm pc (H, f :: fs, k, st, sc) s) (x p : Int32) : ∃ s', mjF (d + 2) 82 [.ref 82, .int x, .int p] (mjW0 s) = some (none, mjW0 s') ∧ oCn s s' ∧ ∀ pc', CRn T L pf wm cm pc' (aFail (H, f :: fs, k, st, sc) x p) s' := by
  obtain ⟨z1, g1⟩ : ∃ y, y = uI s 82 (upd (s.1 82) 8 3) := ⟨_, rfl⟩
  obtain ⟨z2, g2⟩ : ∃ y, y = uI z1 82 (upd (z1.1 82) 10 x) := ⟨_, rfl⟩
  obtain ⟨z3, g3⟩ : ∃ y, y = uI z2 82 (upd (z2.1 82) 11 p) := ⟨_, rfl⟩
  obtain ⟨z4, g4⟩ : ∃ y, y = uI z3 83 (upd (z3.1 83) 0 0) := ⟨_, rfl⟩
  have rr : ∀ h, ¬ (h = 82 ∨ h = 83) → z4.1 h = s.1 h := fun h e => by rw [g4, uI_ne _ _ _ _ (by omega), g3, uI_ne _ _ _ _ (by omega), g2, uI_ne _ _ _ _ (by omega), g1, uI_ne _ _ _ _ (by omega)]
  have v82 : ∀ j, z4.1 82 j = if j = 11 then p else if j = 10 then x else if j = 8 then 3 else s.1 82 j := fun j => by rw [g4, uI_ne _ _ _ _ (by decide), g3, uI_same, upd_g, g2, uI_same, upd_g, g1, uI_same, upd_g]
  have v83 : ∀ j, z4.1 83 j = if j = 0 then 0 else s.1 83 j := fun j => by rw [g4, uI_same, upd_g, g3, uI_ne _ _ _ _ (by decide), g2, uI_ne _ _ _ _ (by decide), g1, uI_ne _ _ _ _ (by decide)]
  obtain ⟨⟨⟨a1, a2, a3, a4⟩, ⟨a5, a6, a7⟩, ⟨a8, a9, a10⟩, ⟨a11, a12⟩, a13⟩, hH, hF, hT⟩ := M
  have n : ∀ j, ¬ (j = 11 ∨ j = 10 ∨ j = 8) → z4.1 82 j = s.1 82 j := fun j hj => by rw [v82, if_neg (by omega), if_neg (by omega), if_neg (by omega)]
  refine ⟨z4, ?_, offG.tr (b := z1) (by rw [g1]; exact oCn.wr (by omega)) (offG.tr (b := z2) (by rw [g2]; exact oCn.wr (by omega)) (offG.tr (b := z3) (by rw [g3]; exact oCn.wr (by omega)) (by rw [g4]; exact oCn.wr (by omega)))), fun pc' => ⟨⟨⟨by rw [v82, if_neg (by decide), if_neg (by decide), if_pos rfl]; rfl, by rw [n 9 (by omega)]; exact a2, by rw [v82, if_neg (by decide), if_pos rfl]; rfl, by rw [v82, if_pos rfl]; rfl⟩, ⟨by rw [n 12 (by omega)]; exact a5, by rw [v83, if_neg (by decide)]; exact a6, by rw [n 13 (by omega)]; exact a7⟩, ⟨by rw [rr 79 (by omega)]; exact a8, by rw [rr 79 (by omega)]; exact a9, by rw [v83, if_pos rfl]; rfl⟩, ⟨by rw [rr 79 (by omega)]; exact a11, by rw [n 7 (by omega)]; exact a12⟩, fun i h1 h2 => by rw [rr 90 (by omega)]; exact a13 i h1 h2⟩, hH.keep (fun y hy => rr y (by omega)), trivial, fun g gs hg => by cases hg⟩⟩
  rw [e_82]
  unfold f_82 b_82_0
  rw [xp_82_8, ← g1, xp_82_10, ← g2, xp_82_11, ← g3, xg_82_1, xV_83, e_36]
  unfold f_36 b_36_0
  rw [xp_83_0, ← g4, bN_s]
end MJB54
