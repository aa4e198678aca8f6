/-! ===== the reference's RUN: its rows against the pure one ===== -/
/-- the CALLS; the values -/
def FRr (b : Nat) (t : PT) (s : mjSt3) : List FRM → Prop
  | [] => True
  | f :: fs => (s.1 171 fs.length = mR b (moM f.1) ∧ s.1 172 fs.length = nI f.2.1 ∧ s.1 173 fs.length = f.2.2.1 ∧ (∀ v, v < 16 → s.1 175 (16 * fs.length + v) = f.2.2.2.1 v) ∧ ∀ g gs, fs = g :: gs → s.1 174 fs.length = nI (i0T t g.1 + f.2.2.2.2)) ∧ FRr b t s fs
def STr (s : mjSt3) : List Int32 → Prop
  | [] => True
  | v :: st => s.1 176 st.length = v ∧ STr s st
/-- where OBJECT o's OWNERS begin -/
def frO (T : TT) (L : List CD) (H : HEAP) (o : Nat) : Nat := bsH T L H (o - 1) - 2 * (o - 1)
def HPr (T : TT) (L : List CD) (b : Nat) (H : HEAP) (s : mjSt3) : Prop := ∀ o, 1 ≤ o → o ≤ H.1 → s.1 169 o = nI (16 * b + (H.2 o).1) ∧ s.1 170 o = nI (frO T L H o) ∧ (∀ i, i < nmL L (H.2 o).1 → s.1 168 (frO T L H o + i) = nI ((H.2 o).2.1 i)) ∧ ∀ i, i < fldT T L (H.2 o).1 → s.1 168 (frO T L H o + nmL L (H.2 o).1 + i) = (H.2 o).2.2 i
def SCr (T : TT) (L : List CD) (wm cm : Nat) (A : AMS) (s : mjSt3) : Prop := (s.1 97 96 = nI A.2.2.2.2.2.2.2.2.1 ∧ s.1 97 97 = A.2.2.2.2.2.2.2.2.2.1 ∧ s.1 97 98 = A.2.2.2.2.2.2.2.2.2.2.1 ∧ s.1 97 99 = A.2.2.2.2.2.2.2.2.2.2.2) ∧ (s.1 97 100 = nI A.2.2.2.2.2.2.2.1 ∧ s.1 97 105 = nI A.2.2.2.2.1 ∧ s.1 97 106 = nI A.2.2.2.2.2.1) ∧ (s.1 97 102 = nI (bsH T L A.1 A.1.1) ∧ s.1 97 103 = nI A.1.1 ∧ s.1 97 116 = nI A.2.1.length) ∧ (s.1 97 101 = nI wm ∧ s.1 97 104 = nI cm) ∧ ∀ i, i < 200 → i < A.2.2.2.2.2.1 → s.1 167 i = A.2.2.2.2.2.2.1 i
def MRn (T : TT) (t : PT) (b wm cm : Nat) (A : AMS) (s : mjSt3) : Prop := SCr T t.1 wm cm A s ∧ HPr T t.1 b A.1 s ∧ FRr b t s A.2.1 ∧ ∀ f fs, A.2.1 = f :: fs → s.1 97 119 = nI (i0T t f.1 + A.2.2.1) ∧ s.1 97 118 = nI A.2.2.2.1.length ∧ STr s A.2.2.2.1
/-- all that a RUN changes -/
def chRn (h j : Nat) : Prop := (h = 97 ∧ (j = 95 ∨ (96 ≤ j ∧ j ≤ 106) ∨ j = 116 ∨ j = 118 ∨ j = 119)) ∨ h = 165 ∨ h = 166 ∨ (167 ≤ h ∧ h ≤ 176) ∨ h = 185
def oRn : mjSt3 → mjSt3 → Prop := offG chRn (fun _ _ => False)
section MJB33
variable {T : TT} {N b wm cm k n d : Nat} {L : List CD} {t : PT} {H : HEAP} {f : FRM} {fs : List FRM} {st : List Int32} {sc : SCL} {s s' : mjSt3} {A : AMS} {v : Int32}
theorem FRr.keep (e : ∀ h, 171 ≤ h ∧ h ≤ 175 → s'.1 h = s.1 h) : ∀ (fs : List FRM), FRr b t s fs → FRr b t s' fs
  | [], _ => trivial
  | f :: fs, ⟨⟨a1, a2, a3, a4, a5⟩, a6⟩ => ⟨⟨by rw [e 171 (by omega)]; exact a1, by rw [e 172 (by omega)]; exact a2, by rw [e 173 (by omega)]; exact a3, fun v hv => by rw [e 175 (by omega)]; exact a4 v hv, fun g gs h => by rw [e 174 (by omega)]; exact a5 g gs h⟩, FRr.keep e fs a6⟩
/-- the CALLS below a number -/
theorem FRr.low (e : ∀ h j, 171 ≤ h ∧ h ≤ 174 → j < n → s'.1 h j = s.1 h j) (e5 : ∀ j, j < 16 * n → s'.1 175 j = s.1 175 j) : ∀ (fs : List FRM), fs.length ≤ n → FRr b t s fs → FRr b t s' fs
  | [], _, _ => trivial
  | f :: fs, hl, ⟨⟨a1, a2, a3, a4, a5⟩, a6⟩ => by
    have hl' : fs.length + 1 ≤ n := hl
    exact ⟨⟨by rw [e 171 _ (by omega) (by omega)]; exact a1, by rw [e 172 _ (by omega) (by omega)]; exact a2, by rw [e 173 _ (by omega) (by omega)]; exact a3, fun v hv => by rw [e5 _ (by omega)]; exact a4 v hv, fun g gs h => by rw [e 174 _ (by omega) (by omega)]; exact a5 g gs h⟩, FRr.low e e5 fs (by omega) a6⟩
theorem STr.low : ∀ (st : List Int32), (∀ j, j < st.length → s'.1 176 j = s.1 176 j) → STr s st → STr s' st
  | [], _, _ => trivial
  | v :: st, e, h => ⟨by rw [e _ (Nat.lt_succ_self _)]; exact h.1, STr.low st (fun j hj => e j (Nat.lt_succ_of_lt hj)) h.2⟩
theorem STr.at : ∀ (st : List Int32) (i : Nat), STr s st → i < st.length → s.1 176 (st.length - 1 - i) = st[i]?.getD 0
  | [], i, _, h => by cases h
  | v :: st, 0, h, _ => by
    show s.1 176 (st.length + 1 - 1 - 0) = v
    rw [show st.length + 1 - 1 - 0 = st.length by omega]
    exact h.1
  | v :: st, i + 1, h, hi => by
    have hi' : i < st.length := Nat.lt_of_succ_lt_succ hi
    have := STr.at st i h.2 hi'
    show s.1 176 (st.length + 1 - 1 - (i + 1)) = st[i]?.getD 0
    rw [show st.length + 1 - 1 - (i + 1) = st.length - 1 - i by omega]
    exact this
theorem STr.drop : ∀ (st : List Int32) (i : Nat), STr s st → STr s (st.drop i)
  | st, 0, h => h
  | [], i + 1, h => h
  | v :: st, i + 1, h => STr.drop st i h.2
theorem HPr.keep (h : HPr T L b H s) (e : ∀ x, 168 ≤ x ∧ x ≤ 170 → s'.1 x = s.1 x) : HPr T L b H s' := by
  intro o o1 o2
  obtain ⟨a1, a2, a3, a4⟩ := h o o1 o2
  exact ⟨by rw [e 169 (by omega)]; exact a1, by rw [e 170 (by omega)]; exact a2, fun i hi => by rw [e 168 (by omega)]; exact a3 i hi, fun i hi => by rw [e 168 (by omega)]; exact a4 i hi⟩
/-- the values changed, nothing else -/
theorem MRn.vals (M : MRn T t b wm cm (H, f :: fs, k, st, sc) s) (e97 : ∀ j, ¬ (j = 118 ∨ j = 95) → s'.1 97 j = s.1 97 j) (er : ∀ h, 167 ≤ h ∧ h ≤ 175 → s'.1 h = s.1 h) {st' : List Int32} (h8 : s'.1 97 118 = nI st'.length) (hS : STr s' st') : MRn T t b wm cm (H, f :: fs, k, st', sc) s' := by
  obtain ⟨⟨⟨a1, a2, a3, a4⟩, ⟨a5, a6, a7⟩, ⟨a8, a9, a10⟩, ⟨a11, a12⟩, a13⟩, hH, hF, hT⟩ := M
  refine ⟨⟨⟨by rw [e97 96 (by omega)]; exact a1, by rw [e97 97 (by omega)]; exact a2, by rw [e97 98 (by omega)]; exact a3, by rw [e97 99 (by omega)]; exact a4⟩, ⟨by rw [e97 100 (by omega)]; exact a5, by rw [e97 105 (by omega)]; exact a6, by rw [e97 106 (by omega)]; exact a7⟩, ⟨by rw [e97 102 (by omega)]; exact a8, by rw [e97 103 (by omega)]; exact a9, by rw [e97 116 (by omega)]; exact a10⟩, ⟨by rw [e97 101 (by omega)]; exact a11, by rw [e97 104 (by omega)]; exact a12⟩, fun i h1 h2 => by rw [er 167 (by omega)]; exact a13 i h1 h2⟩, hH.keep (fun x hx => er x (by omega)), FRr.keep (fun x hx => er x (by omega)) _ hF, fun g gs hg => ⟨?_, h8, hS⟩⟩
  rw [e97 119 (by omega)]
  exact (hT g gs hg).1
/-- push -/
theorem x_232 (M : MRn T t b wm cm (H, f :: fs, k, st, sc) s) (hl : st.length < 8000) (v : Int32) : ∃ s', mjF (d + 1) 232 [.ref 97, .int v] (mjW0 s) = some (none, mjW0 s') ∧ oRn s s' ∧ MRn T t b wm cm (H, f :: fs, k, v :: st, sc) s' := by
  obtain ⟨h9, h8, hS⟩ := M.2.2.2 f fs rfl
  have h8' : s.1 97 118 = nI st.length := h8
  obtain ⟨z1, g1⟩ : ∃ y, y = uI s 176 (upd (s.1 176) st.length v) := ⟨_, rfl⟩
  obtain ⟨z2, g2⟩ : ∃ y, y = uI z1 97 (upd (z1.1 97) 118 (nI (st.length + 1))) := ⟨_, rfl⟩
  have r1 : ∀ h, ¬ h = 176 → z1.1 h = s.1 h := fun h e => by rw [g1]; exact uI_ne _ _ _ _ e
  have r2 : ∀ h, ¬ h = 97 → z2.1 h = z1.1 h := fun h e => by rw [g2]; exact uI_ne _ _ _ _ e
  have v97 : ∀ j, z2.1 97 j = if j = 118 then nI (st.length + 1) else s.1 97 j := fun j => by rw [g2, uI_same, upd_g, r1 97 (by decide)]
  have v176 : ∀ j, z2.1 176 j = if j = st.length then v else s.1 176 j := fun j => by rw [r2 176 (by decide), g1, uI_same, upd_g]
  refine ⟨z2, ?_, offG.tr (b := z1) (by rw [g1]; exact offG.w (by unfold chRn; omega)) (by rw [g2]; exact offG.w (by unfold chRn; omega)), M.vals (fun j hj => by rw [v97, if_neg (by omega)]) (fun h hh => by rw [r2 h (by omega), r1 h (by omega)]) (by rw [v97, if_pos rfl]; rfl) ⟨by rw [v176, if_pos rfl], STr.low st (fun j hj => by rw [v176, if_neg (by omega)]) hS⟩⟩
  rw [e_232]
  unfold f_232 b_232_0
  rw [xg_97_117, xg_97_118, h8', ws_176 hl, ← g1, xg_97_118, r1 97 (by decide), h8', xp_97_118, nI_1, ← g2]
/-- pop -/
theorem x_238 (M : MRn T t b wm cm (H, f :: fs, k, v :: st, sc) s) (hl : st.length < 8000) : ∃ s', mjF (d + 1) 238 [.ref 97] (mjW0 s) = some (some (.int v), mjW0 s') ∧ oRn s s' ∧ MRn T t b wm cm (H, f :: fs, k, st, sc) s' := by
  obtain ⟨h9, h8, hS⟩ := M.2.2.2 f fs rfl
  have h8' : s.1 97 118 = nI (st.length + 1) := h8
  have hS' : s.1 176 st.length = v ∧ STr s st := hS
  obtain ⟨z1, g1⟩ : ∃ y, y = uI s 97 (upd (s.1 97) 118 (nI st.length)) := ⟨_, rfl⟩
  have r1 : ∀ h, ¬ h = 97 → z1.1 h = s.1 h := fun h e => by rw [g1]; exact uI_ne _ _ _ _ e
  have v97 : ∀ j, z1.1 97 j = if j = 118 then nI st.length else s.1 97 j := fun j => by rw [g1, uI_same, upd_g]
  refine ⟨z1, ?_, by rw [g1]; exact offG.w (by unfold chRn; omega), M.vals (fun j hj => by rw [v97, if_neg (by omega)]) (fun h hh => by rw [r1 h (by omega)]) (by rw [v97, if_pos rfl]) (STr.low st (fun j hj => by rw [r1 176 (by decide)]) hS'.2)⟩
  rw [e_238]
  unfold f_238 b_238_0
  rw [xg_97_118, h8', show nI (st.length + 1) - 1 = nI st.length from nI_pred st.length, xp_97_118, ← g1, xg_97_117, xg_97_118, v97, if_pos rfl, wa_176 hl, r1 176 (by decide), hS'.1]
/-- a TROUBLE ends the RUN -/
theorem x_234 (M : MRn T t b wm cm (H, f :: fs, k, st, sc) s) (x p : Int32) : ∃ s', mjF (d + 1) 234 [.ref 97, .int x, .int p] (mjW0 s) = some (none, mjW0 s') ∧ oRn s s' ∧ MRn T t b wm cm (aFail (H, f :: fs, k, st, sc) x p) s' := by
  obtain ⟨z1, g1⟩ : ∃ y, y = uI s 97 (upd (s.1 97) 96 3) := ⟨_, rfl⟩
  obtain ⟨z2, g2⟩ : ∃ y, y = uI z1 97 (upd (z1.1 97) 98 x) := ⟨_, rfl⟩
  obtain ⟨z3, g3⟩ : ∃ y, y = uI z2 97 (upd (z2.1 97) 99 p) := ⟨_, rfl⟩
  obtain ⟨z4, g4⟩ : ∃ y, y = uI z3 97 (upd (z3.1 97) 116 0) := ⟨_, rfl⟩
  have rr : ∀ h, ¬ h = 97 → z4.1 h = s.1 h := fun h e => by rw [g4, uI_ne _ _ _ _ e, g3, uI_ne _ _ _ _ e, g2, uI_ne _ _ _ _ e, g1, uI_ne _ _ _ _ e]
  have v97 : ∀ j, z4.1 97 j = if j = 116 then 0 else if j = 99 then p else if j = 98 then x else if j = 96 then 3 else s.1 97 j := fun j => by rw [g4, uI_same, upd_g, g3, uI_same, upd_g, g2, uI_same, upd_g, g1, uI_same, upd_g]
  obtain ⟨⟨⟨a1, a2, a3, a4⟩, ⟨a5, a6, a7⟩, ⟨a8, a9, a10⟩, ⟨a11, a12⟩, a13⟩, hH, hF, hT⟩ := M
  have n : ∀ j, ¬ (j = 116 ∨ j = 99 ∨ j = 98 ∨ j = 96) → z4.1 97 j = s.1 97 j := fun j hj => by rw [v97, if_neg (by omega), if_neg (by omega), if_neg (by omega), if_neg (by omega)]
  refine ⟨z4, ?_, offG.tr (b := z1) (by rw [g1]; exact offG.w (by unfold chRn; omega)) (offG.tr (b := z2) (by rw [g2]; exact offG.w (by unfold chRn; omega)) (offG.tr (b := z3) (by rw [g3]; exact offG.w (by unfold chRn; omega)) (by rw [g4]; exact offG.w (by unfold chRn; omega)))), ⟨⟨by rw [v97, if_neg (by decide), if_neg (by decide), if_neg (by decide), if_pos rfl]; rfl, by rw [n 97 (by omega)]; exact a2, by rw [v97, if_neg (by decide), if_neg (by decide), if_pos rfl]; rfl, by rw [v97, if_neg (by decide), if_pos rfl]; rfl⟩, ⟨by rw [n 100 (by omega)]; exact a5, by rw [n 105 (by omega)]; exact a6, by rw [n 106 (by omega)]; exact a7⟩, ⟨by rw [n 102 (by omega)]; exact a8, by rw [n 103 (by omega)]; exact a9, by rw [v97, if_pos rfl]; rfl⟩, ⟨by rw [n 101 (by omega)]; exact a11, by rw [n 104 (by omega)]; exact a12⟩, fun i h1 h2 => by rw [rr 167 (by decide)]; exact a13 i h1 h2⟩, hH.keep (fun y hy => rr y (by omega)), trivial, fun g gs hg => by cases hg⟩
  rw [e_234]
  unfold f_234 b_234_0
  rw [xp_97_96, ← g1, xp_97_98, ← g2, xp_97_99, ← g3, xp_97_116, ← g4]
end MJB33
