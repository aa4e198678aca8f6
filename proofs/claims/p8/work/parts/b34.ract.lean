/-! ===== the reference's act: orders that make no OBJECT and call none ===== -/
def gAct (T : TT) (t : PT) (b wm cm : Nat) (A : AMS) (s : mjSt3) (u : mjU) : Prop := ∃ s', u = some (none, mjW0 s') ∧ oRn s s' ∧ MRn T t b wm cm A s'
/-- an order as it was judged -/
def RwJ (E : EV) (b i : Nat) (r : Row) (j : JS) (s : mjSt3) : Prop := Rw s (5000 * b + i) (r.1, r.2.1, nA E r j, r.2.2.2.1, r.2.2.2.2) ∧ i < 5000 ∧ b ≤ 1
section MJB34
variable {T : TT} {N b wm cm k n d i i0 : Nat} {L : List CD} {t : PT} {E : EV} {r : Row} {j : JS} {H : HEAP} {f : FRM} {fs : List FRM} {st : List Int32} {sc : SCL} {s s' : mjSt3} {v w : Int32}
theorem MRn.c16 (M : MRn T t b wm cm (H, f :: fs, k, st, sc) s) : s.1 97 116 = nI (fs.length + 1) := M.1.2.2.1.2.2
/-- the last CALL's STATEMENT or VARIABLES changed -/
theorem MRn.top (M : MRn T t b wm cm (H, f :: fs, k, st, sc) s) {f' : FRM} (e1 : f'.1 = f.1) (e2 : f'.2.1 = f.2.1) (e3 : f'.2.2.2.2 = f.2.2.2.2) (q : ∀ h, ¬ h = 173 → ¬ h = 175 → s'.1 h = s.1 h) (q3 : ∀ x, ¬ x = fs.length → s'.1 173 x = s.1 173 x) (q5 : ∀ x, x < 16 * fs.length → s'.1 175 x = s.1 175 x) (h3 : s'.1 173 fs.length = f'.2.2.1) (h5 : ∀ x, x < 16 → s'.1 175 (16 * fs.length + x) = f'.2.2.2.1 x) : MRn T t b wm cm (H, f' :: fs, k, st, sc) s' := by
  obtain ⟨⟨a1, a2, a3, a4, a5⟩, hH, ⟨⟨b1, b2', b3, b4, b5⟩, b6⟩, hT⟩ := M
  have e97 := q 97 (by decide) (by decide)
  obtain ⟨c1, c2, c3⟩ := hT f fs rfl
  refine ⟨⟨by rw [e97]; exact a1, by rw [e97]; exact a2, by rw [e97]; exact a3, by rw [e97]; exact a4, fun x h1 h2 => by rw [q 167 (by decide) (by decide)]; exact a5 x h1 h2⟩, hH.keep (fun x hx => q x (by omega) (by omega)), ⟨⟨by rw [q 171 (by decide) (by decide), e1]; exact b1, by rw [q 172 (by decide) (by decide), e2]; exact b2', h3, h5, fun g gs hg => by rw [q 174 (by decide) (by decide), e3]; exact b5 g gs hg⟩, FRr.low (n := fs.length) (fun h x h1 h2 => ?_) q5 fs (Nat.le_refl _) b6⟩, fun g gs hg => ?_⟩
  · by_cases e : h = 173
    · rw [e]; exact q3 x (by omega)
    · rw [q h e (by omega)]
  · have hg' : f' = g := (List.cons.inj hg).1
    rw [e97, ← hg', e1]
    exact ⟨c1, c2, STr.low st (fun x _ => by rw [q 176 (by decide) (by decide)]) c3⟩
theorem oRn.wr {h x : Nat} {y : Int32} (e : chRn h x) : oRn s (uI s h (upd (s.1 h) x y)) := offG.w e
theorem ac_2 (M : MRn T t b wm cm (H, f :: fs, k, st, sc) s) (W : RwJ E b i r j s) (o : r.1 = 2) : gAct T t b wm cm (aStep T t.1 E j i0 wm cm r (H, f :: fs, k, st, sc)) s (mjF (d + 2) 231 [.ref 97, .int (nI (5000 * b + i))] (mjW0 s)) := by
  have hi := W.2.1
  have hb := W.2.2
  refine ⟨s, ?_, offG.rf, by rw [as_n (by rw [o]; decide)]; exact M⟩
  rw [e_231]
  unfold f_231 b_231_0
  rw [xg_97_116, M.c16, xg_97_54, wa_143 (by omega), W.1.1, o, if_neg (by decide), if_pos rfl]
theorem ac_11 (M : MRn T t b wm cm (H, f :: fs, k, st, sc) s) (W : RwJ E b i r j s) (o : r.1 = 11) : gAct T t b wm cm (aStep T t.1 E j i0 wm cm r (H, f :: fs, k, st, sc)) s (mjF (d + 2) 231 [.ref 97, .int (nI (5000 * b + i))] (mjW0 s)) := by
  have hi := W.2.1
  have hb := W.2.2
  refine ⟨s, ?_, offG.rf, by rw [as_n (by rw [o]; decide)]; exact M⟩
  rw [e_231]
  unfold f_231 b_231_0
  rw [xg_97_116, M.c16, xg_97_54, wa_143 (by omega), W.1.1, o, if_neg (by decide), if_neg (by decide), if_neg (by decide), if_neg (by decide), if_neg (by decide), if_neg (by decide), if_neg (by decide), if_neg (by decide), if_neg (by decide), if_neg (by decide), if_pos rfl]
theorem ac_12 (M : MRn T t b wm cm (H, f :: fs, k, st, sc) s) (W : RwJ E b i r j s) (o : r.1 = 12) : gAct T t b wm cm (aStep T t.1 E j i0 wm cm r (H, f :: fs, k, st, sc)) s (mjF (d + 2) 231 [.ref 97, .int (nI (5000 * b + i))] (mjW0 s)) := by
  have hi := W.2.1
  have hb := W.2.2
  refine ⟨s, ?_, offG.rf, by rw [as_n (by rw [o]; decide)]; exact M⟩
  rw [e_231]
  unfold f_231 b_231_0
  rw [xg_97_116, M.c16, xg_97_54, wa_143 (by omega), W.1.1, o, if_neg (by decide), if_neg (by decide), if_neg (by decide), if_neg (by decide), if_neg (by decide), if_neg (by decide), if_neg (by decide), if_neg (by decide), if_neg (by decide), if_neg (by decide), if_neg (by decide), if_pos rfl]
theorem ac_15 (M : MRn T t b wm cm (H, f :: fs, k, st, sc) s) (W : RwJ E b i r j s) (o : r.1 = 15) : gAct T t b wm cm (aStep T t.1 E j i0 wm cm r (H, f :: fs, k, st, sc)) s (mjF (d + 2) 231 [.ref 97, .int (nI (5000 * b + i))] (mjW0 s)) := by
  have hi := W.2.1
  have hb := W.2.2
  refine ⟨s, ?_, offG.rf, by rw [as_n (by rw [o]; decide)]; exact M⟩
  rw [e_231]
  unfold f_231 b_231_0
  rw [xg_97_116, M.c16, xg_97_54, wa_143 (by omega), W.1.1, o, if_neg (by decide), if_neg (by decide), if_neg (by decide), if_neg (by decide), if_neg (by decide), if_neg (by decide), if_neg (by decide), if_neg (by decide), if_neg (by decide), if_neg (by decide), if_neg (by decide), if_neg (by decide), if_neg (by decide), if_neg (by decide), if_pos rfl]
theorem ac_16 (M : MRn T t b wm cm (H, f :: fs, k, st, sc) s) (W : RwJ E b i r j s) (o : r.1 = 16) : gAct T t b wm cm (aStep T t.1 E j i0 wm cm r (H, f :: fs, k, st, sc)) s (mjF (d + 2) 231 [.ref 97, .int (nI (5000 * b + i))] (mjW0 s)) := by
  have hi := W.2.1
  have hb := W.2.2
  refine ⟨s, ?_, offG.rf, by rw [as_n (by rw [o]; decide)]; exact M⟩
  rw [e_231]
  unfold f_231 b_231_0
  rw [xg_97_116, M.c16, xg_97_54, wa_143 (by omega), W.1.1, o, if_neg (by decide), if_neg (by decide), if_neg (by decide), if_neg (by decide), if_neg (by decide), if_neg (by decide), if_neg (by decide), if_neg (by decide), if_neg (by decide), if_neg (by decide), if_neg (by decide), if_neg (by decide), if_neg (by decide), if_neg (by decide), if_neg (by decide), if_pos rfl]
theorem ac_19 (M : MRn T t b wm cm (H, f :: fs, k, st, sc) s) (W : RwJ E b i r j s) (o : r.1 = 19) : gAct T t b wm cm (aStep T t.1 E j i0 wm cm r (H, f :: fs, k, st, sc)) s (mjF (d + 2) 231 [.ref 97, .int (nI (5000 * b + i))] (mjW0 s)) := by
  have hi := W.2.1
  have hb := W.2.2
  refine ⟨s, ?_, offG.rf, by rw [as_n (by rw [o]; decide)]; exact M⟩
  rw [e_231]
  unfold f_231 b_231_0
  rw [xg_97_116, M.c16, xg_97_54, wa_143 (by omega), W.1.1, o, if_neg (by decide), if_neg (by decide), if_neg (by decide), if_neg (by decide), if_neg (by decide), if_neg (by decide), if_neg (by decide), if_neg (by decide), if_neg (by decide), if_neg (by decide), if_neg (by decide), if_neg (by decide), if_neg (by decide), if_neg (by decide), if_neg (by decide), if_neg (by decide), if_neg (by decide), if_neg (by decide), if_pos rfl]
theorem ac_26 (M : MRn T t b wm cm (H, f :: fs, k, st, sc) s) (W : RwJ E b i r j s) (o : r.1 = 26) : gAct T t b wm cm (aStep T t.1 E j i0 wm cm r (H, f :: fs, k, st, sc)) s (mjF (d + 2) 231 [.ref 97, .int (nI (5000 * b + i))] (mjW0 s)) := by
  have hi := W.2.1
  have hb := W.2.2
  refine ⟨s, ?_, offG.rf, by rw [as_n (by rw [o]; decide)]; exact M⟩
  rw [e_231]
  unfold f_231 b_231_0
  rw [xg_97_116, M.c16, xg_97_54, wa_143 (by omega), W.1.1, o, if_neg (by decide), if_neg (by decide), if_neg (by decide), if_neg (by decide), if_neg (by decide), if_neg (by decide), if_neg (by decide), if_neg (by decide), if_neg (by decide), if_neg (by decide), if_neg (by decide), if_neg (by decide), if_neg (by decide), if_neg (by decide), if_neg (by decide), if_neg (by decide), if_neg (by decide), if_neg (by decide), if_neg (by decide), if_neg (by decide), if_neg (by decide), if_neg (by decide), if_neg (by decide), if_neg (by decide), if_neg (by decide), if_pos rfl]
theorem ac_27 (M : MRn T t b wm cm (H, f :: fs, k, st, sc) s) (W : RwJ E b i r j s) (o : r.1 = 27) : gAct T t b wm cm (aStep T t.1 E j i0 wm cm r (H, f :: fs, k, st, sc)) s (mjF (d + 2) 231 [.ref 97, .int (nI (5000 * b + i))] (mjW0 s)) := by
  have hi := W.2.1
  have hb := W.2.2
  refine ⟨s, ?_, offG.rf, by rw [as_n (by rw [o]; decide)]; exact M⟩
  rw [e_231]
  unfold f_231 b_231_0
  rw [xg_97_116, M.c16, xg_97_54, wa_143 (by omega), W.1.1, o, if_neg (by decide), if_neg (by decide), if_neg (by decide), if_neg (by decide), if_neg (by decide), if_neg (by decide), if_neg (by decide), if_neg (by decide), if_neg (by decide), if_neg (by decide), if_neg (by decide), if_neg (by decide), if_neg (by decide), if_neg (by decide), if_neg (by decide), if_neg (by decide), if_neg (by decide), if_neg (by decide), if_neg (by decide), if_neg (by decide), if_neg (by decide), if_neg (by decide), if_neg (by decide), if_neg (by decide), if_neg (by decide), if_neg (by decide), if_pos rfl]
theorem ac_30 (M : MRn T t b wm cm (H, f :: fs, k, st, sc) s) (W : RwJ E b i r j s) (o : r.1 = 30) : gAct T t b wm cm (aStep T t.1 E j i0 wm cm r (H, f :: fs, k, st, sc)) s (mjF (d + 2) 231 [.ref 97, .int (nI (5000 * b + i))] (mjW0 s)) := by
  have hi := W.2.1
  have hb := W.2.2
  refine ⟨s, ?_, offG.rf, by rw [as_n (by rw [o]; decide)]; exact M⟩
  rw [e_231]
  unfold f_231 b_231_0
  rw [xg_97_116, M.c16, xg_97_54, wa_143 (by omega), W.1.1, o, if_neg (by decide), if_neg (by decide), if_neg (by decide), if_neg (by decide), if_neg (by decide), if_neg (by decide), if_neg (by decide), if_neg (by decide), if_neg (by decide), if_neg (by decide), if_neg (by decide), if_neg (by decide), if_neg (by decide), if_neg (by decide), if_neg (by decide), if_neg (by decide), if_neg (by decide), if_neg (by decide), if_neg (by decide), if_neg (by decide), if_neg (by decide), if_neg (by decide), if_neg (by decide), if_neg (by decide), if_neg (by decide), if_neg (by decide), if_neg (by decide), if_neg (by decide)]
theorem ac_3 (M : MRn T t b wm cm (H, f :: fs, k, st, sc) s) (W : RwJ E b i r j s) (o : r.1 = 3) (hl : st.length < 8000) : gAct T t b wm cm (aStep T t.1 E j i0 wm cm r (H, f :: fs, k, st, sc)) s (mjF (d + 2) 231 [.ref 97, .int (nI (5000 * b + i))] (mjW0 s)) := by
  have hi := W.2.1
  have hb := W.2.2
  obtain ⟨s', a1, a2, a3⟩ := x_232 (d := d) M hl (r.2.2.1)
  refine ⟨s', ?_, a2, by rw [as_3 o]; exact a3⟩
  have w3 : s.1 145 (5000 * b + i) = r.2.2.1 := by
    have := W.1.2.2.1
    rw [this]
    show nA E r j = _
    unfold nA
    rw [o, if_neg (by decide), if_neg (by decide), if_neg (by decide)]
  rw [e_231]
  unfold f_231 b_231_0
  rw [xg_97_116, M.c16, xg_97_54, wa_143 (by omega), W.1.1, o, if_neg (by decide), if_neg (by decide), if_pos rfl, xg_97_56, wa_145 (by omega), w3, xV_97, a1, bN_s]
theorem ac_4 (M : MRn T t b wm cm (H, f :: fs, k, st, sc) s) (W : RwJ E b i r j s) (o : r.1 = 4) (hl : st.length < 8000) : gAct T t b wm cm (aStep T t.1 E j i0 wm cm r (H, f :: fs, k, st, sc)) s (mjF (d + 2) 231 [.ref 97, .int (nI (5000 * b + i))] (mjW0 s)) := by
  have hi := W.2.1
  have hb := W.2.2
  obtain ⟨s', a1, a2, a3⟩ := x_232 (d := d) M hl (0)
  refine ⟨s', ?_, a2, by rw [as_4 o]; exact a3⟩
  rw [e_231]
  unfold f_231 b_231_0
  rw [xg_97_116, M.c16, xg_97_54, wa_143 (by omega), W.1.1, o, if_neg (by decide), if_neg (by decide), if_neg (by decide), if_pos rfl, xV_97, a1, bN_s]
theorem ac_5 (M : MRn T t b wm cm (H, f :: fs, k, st, sc) s) (W : RwJ E b i r j s) (o : r.1 = 5) (hl : st.length < 8000) (hf : fs.length < 40) : gAct T t b wm cm (aStep T t.1 E j i0 wm cm r (H, f :: fs, k, st, sc)) s (mjF (d + 2) 231 [.ref 97, .int (nI (5000 * b + i))] (mjW0 s)) := by
  have hi := W.2.1
  have hb := W.2.2
  obtain ⟨s', a1, a2, a3⟩ := x_232 (d := d) M hl (nI f.2.1)
  refine ⟨s', ?_, a2, by rw [as_5 o]; exact a3⟩
  rw [e_231]
  unfold f_231 b_231_0
  rw [xg_97_116, M.c16, xg_97_54, wa_143 (by omega), W.1.1, o, if_neg (by decide), if_neg (by decide), if_neg (by decide), if_neg (by decide), if_pos rfl, xg_97_112, nI_pred, wa_172 (by omega), M.2.2.1.1.2.1, xV_97, a1, bN_s]
theorem ac_6 (M : MRn T t b wm cm (H, f :: fs, k, st, sc) s) (W : RwJ E b i r j s) (o : r.1 = 6) (hl : st.length < 8000) (hf : fs.length < 40) {e : VE} (hv : vsK j.2.2.1 r.2.2.2.2 = some e) (h16 : e.2.2.1 < 16) : gAct T t b wm cm (aStep T t.1 E j i0 wm cm r (H, f :: fs, k, st, sc)) s (mjF (d + 2) 231 [.ref 97, .int (nI (5000 * b + i))] (mjW0 s)) := by
  have hi := W.2.1
  have hb := W.2.2
  obtain ⟨s', a1, a2, a3⟩ := x_232 (d := d) M hl (f.2.2.2.1 (varJ r j))
  refine ⟨s', ?_, a2, by rw [as_6 o]; exact a3⟩
  have w3 : s.1 145 (5000 * b + i) = nI (varJ r j) := by
    have := W.1.2.2.1
    rw [this]
    show nA E r j = _
    unfold nA varJ
    rw [o, if_pos (by decide), hv]
    rfl
  have v1 : varJ r j = e.2.2.1 := by unfold varJ; rw [hv]
  rw [e_231]
  unfold f_231 b_231_0
  rw [xg_97_116, M.c16, xg_97_54, wa_143 (by omega), W.1.1, o, if_neg (by decide), if_neg (by decide), if_neg (by decide), if_neg (by decide), if_neg (by decide), if_pos rfl, nI_pred, xg_97_115, xg_97_56, wa_145 (by omega), w3, show (16 : Int32) * nI fs.length + nI (varJ r j) = nI (16 * fs.length + varJ r j) by rw [show (16 : Int32) = nI 16 from rfl, nI_mul, nI_add], wa_175 (by omega), M.2.2.1.1.2.2.2.1 _ (by omega), xV_97, a1, bN_s]
theorem ac_1 (M : MRn T t b wm cm (H, f :: fs, k, st, sc) s) (W : RwJ E b i r j s) (o : r.1 = 1) (hf : fs.length < 40) : gAct T t b wm cm (aStep T t.1 E j i0 wm cm r (H, f :: fs, k, st, sc)) s (mjF (d + 2) 231 [.ref 97, .int (nI (5000 * b + i))] (mjW0 s)) := by
  have hi := W.2.1
  have hb := W.2.2
  obtain ⟨z1, g1⟩ : ∃ y, y = uI s 173 (upd (s.1 173) fs.length r.2.1) := ⟨_, rfl⟩
  have r1 : ∀ h, ¬ h = 173 → z1.1 h = s.1 h := fun h e => by rw [g1]; exact uI_ne _ _ _ _ e
  have v1 : ∀ x, z1.1 173 x = if x = fs.length then r.2.1 else s.1 173 x := fun x => by rw [g1, uI_same, upd_g]
  refine ⟨z1, ?_, by rw [g1]; exact oRn.wr (by unfold chRn; omega), by
    rw [as_1 o]
    exact M.top (f' := (f.1, f.2.1, r.2.1, f.2.2.2)) rfl rfl rfl (fun h e _ => r1 h e) (fun x hx => by rw [v1, if_neg hx]) (fun x _ => by rw [r1 175 (by decide)]) (by rw [v1, if_pos rfl]) (fun x hx => by rw [r1 175 (by decide)]; exact M.2.2.1.1.2.2.2.1 x hx)⟩
  rw [e_231]
  unfold f_231 b_231_0
  rw [xg_97_116, M.c16, xg_97_54, wa_143 (by omega), W.1.1, o, if_pos rfl, xg_97_113, xg_97_55, wa_144 (by omega), W.1.2.1, nI_pred, ws_173 hf, ← g1]
theorem ac_8 (M : MRn T t b wm cm (H, f :: fs, k, v :: st, sc) s) (W : RwJ E b i r j s) (o : r.1 = 8) (hl : st.length < 8000) : gAct T t b wm cm (aStep T t.1 E j i0 wm cm r (H, f :: fs, k, v :: st, sc)) s (mjF (d + 2) 231 [.ref 97, .int (nI (5000 * b + i))] (mjW0 s)) := by
  have hi := W.2.1
  have hb := W.2.2
  obtain ⟨s1, a1, a2, a3⟩ := x_238 (d := d) M hl
  obtain ⟨s2, c1, c2, c3⟩ := x_232 (d := d) a3 hl (-v)
  refine ⟨s2, ?_, offG.tr a2 c2, by rw [as_8 o]; exact c3⟩
  rw [e_231]
  unfold f_231 b_231_0
  rw [xg_97_116, M.c16, xg_97_54, wa_143 (by omega), W.1.1, o, if_neg (by decide), if_neg (by decide), if_neg (by decide), if_neg (by decide), if_neg (by decide), if_neg (by decide), if_neg (by decide), if_pos rfl, xV_97, a1, bI_s, xV_97, c1, bN_s]
theorem ac_25 (M : MRn T t b wm cm (H, f :: fs, k, v :: st, sc) s) (W : RwJ E b i r j s) (o : r.1 = 25) : gAct T t b wm cm (aStep T t.1 E j i0 wm cm r (H, f :: fs, k, v :: st, sc)) s (mjF (d + 2) 231 [.ref 97, .int (nI (5000 * b + i))] (mjW0 s)) := by
  have hi := W.2.1
  have hb := W.2.2
  obtain ⟨h9, h8, hS⟩ := M.2.2.2 f fs rfl
  have h8' : s.1 97 118 = nI (st.length + 1) := h8
  have hS' : s.1 176 st.length = v ∧ STr s st := hS
  obtain ⟨z1, g1⟩ : ∃ y, y = uI s 97 (upd (s.1 97) 118 (nI st.length)) := ⟨_, rfl⟩
  have r1 : ∀ h, ¬ h = 97 → z1.1 h = s.1 h := fun h e => by rw [g1]; exact uI_ne _ _ _ _ e
  have v97 : ∀ x, z1.1 97 x = if x = 118 then nI st.length else s.1 97 x := fun x => by rw [g1, uI_same, upd_g]
  refine ⟨z1, ?_, by rw [g1]; exact oRn.wr (by unfold chRn; omega), by
    rw [as_25 o]
    exact M.vals (fun x hx => by rw [v97, if_neg (by omega)]) (fun h hh => by rw [r1 h (by omega)]) (by rw [v97, if_pos rfl]; rfl) (STr.low st (fun x hx => by rw [r1 176 (by decide)]) hS'.2)⟩
  rw [e_231]
  unfold f_231 b_231_0
  rw [xg_97_116, M.c16, xg_97_54, wa_143 (by omega), W.1.1, o, if_neg (by decide), if_neg (by decide), if_neg (by decide), if_neg (by decide), if_neg (by decide), if_neg (by decide), if_neg (by decide), if_neg (by decide), if_neg (by decide), if_neg (by decide), if_neg (by decide), if_neg (by decide), if_neg (by decide), if_neg (by decide), if_neg (by decide), if_neg (by decide), if_neg (by decide), if_neg (by decide), if_neg (by decide), if_neg (by decide), if_neg (by decide), if_neg (by decide), if_neg (by decide), if_neg (by decide), if_pos rfl, xg_97_118, h8', nI_pred, xp_97_118, ← g1]
theorem ac_17 (M : MRn T t b wm cm (H, f :: fs, k, v :: st, sc) s) (W : RwJ E b i r j s) (o : r.1 = 17) (hl : st.length < 8000) (hf : fs.length < 40) (h16 : j.2.2.2.2.2.2.1 < 16) : gAct T t b wm cm (aStep T t.1 E j i0 wm cm r (H, f :: fs, k, v :: st, sc)) s (mjF (d + 2) 231 [.ref 97, .int (nI (5000 * b + i))] (mjW0 s)) := by
  have hi := W.2.1
  have hb := W.2.2
  have w3 : s.1 145 (5000 * b + i) = nI j.2.2.2.2.2.2.1 := by
    rw [W.1.2.2.1]
    show nA E r j = _
    unfold nA
    rw [o, if_neg (by decide), if_neg (by decide), if_pos (by decide)]
  obtain ⟨s1, a1, a2, a3⟩ := x_238 (d := d) M hl
  obtain ⟨z1, g1⟩ : ∃ y, y = uI s1 175 (upd (s1.1 175) (16 * fs.length + j.2.2.2.2.2.2.1) v) := ⟨_, rfl⟩
  have r1 : ∀ h, ¬ h = 175 → z1.1 h = s1.1 h := fun h e => by rw [g1]; exact uI_ne _ _ _ _ e
  have v1 : ∀ x, z1.1 175 x = if x = 16 * fs.length + j.2.2.2.2.2.2.1 then v else s1.1 175 x := fun x => by rw [g1, uI_same, upd_g]
  refine ⟨z1, ?_, offG.tr a2 (by rw [g1]; exact oRn.wr (by unfold chRn; omega)), by
    rw [as_17 o]
    refine a3.top (f' := setV f j.2.2.2.2.2.2.1 v) rfl rfl rfl (fun h _ e => r1 h e) (fun x hx => by rw [r1 173 (by decide)]) (fun x hx => by rw [v1, if_neg (by omega)]) (by rw [r1 173 (by decide)]; exact a3.2.2.1.1.2.2.1) (fun x hx => ?_)
    rw [v1]
    show _ = if x = j.2.2.2.2.2.2.1 then v else f.2.2.2.1 x
    by_cases e : x = j.2.2.2.2.2.2.1
    · rw [if_pos e, if_pos (by omega)]
    · rw [if_neg e, if_neg (by omega)]; exact a3.2.2.1.1.2.2.2.1 x hx⟩
  rw [e_231]
  unfold f_231 b_231_0
  rw [xg_97_116, M.c16, xg_97_54, wa_143 (by omega), W.1.1, o, if_neg (by decide), if_neg (by decide), if_neg (by decide), if_neg (by decide), if_neg (by decide), if_neg (by decide), if_neg (by decide), if_neg (by decide), if_neg (by decide), if_neg (by decide), if_neg (by decide), if_neg (by decide), if_neg (by decide), if_neg (by decide), if_neg (by decide), if_neg (by decide), if_pos rfl]
  unfold b_231_346
  rw [xg_97_115, xg_97_56, wa_145 (by omega), w3, xV_97, a1, bI_s, nI_pred, show (16 : Int32) * nI fs.length + nI j.2.2.2.2.2.2.1 = nI (16 * fs.length + j.2.2.2.2.2.2.1) by rw [show (16 : Int32) = nI 16 from rfl, nI_mul, nI_add], ws_175 (by omega), ← g1]
theorem ac_20 (M : MRn T t b wm cm (H, f :: fs, k, v :: st, sc) s) (W : RwJ E b i r j s) (o : r.1 = 20) (hl : st.length < 8000) (hf : fs.length < 40) (h16 : j.2.2.2.1 < 16) (h20 : r.2.2.1 = nI j.2.2.2.1) : gAct T t b wm cm (aStep T t.1 E j i0 wm cm r (H, f :: fs, k, v :: st, sc)) s (mjF (d + 2) 231 [.ref 97, .int (nI (5000 * b + i))] (mjW0 s)) := by
  have hi := W.2.1
  have hb := W.2.2
  have w3 : s.1 145 (5000 * b + i) = nI j.2.2.2.1 := by
    rw [W.1.2.2.1]
    show nA E r j = _
    unfold nA
    rw [o, if_neg (by decide), if_neg (by decide), if_neg (by decide), h20]
  obtain ⟨s1, a1, a2, a3⟩ := x_238 (d := d) M hl
  obtain ⟨z1, g1⟩ : ∃ y, y = uI s1 175 (upd (s1.1 175) (16 * fs.length + j.2.2.2.1) v) := ⟨_, rfl⟩
  have r1 : ∀ h, ¬ h = 175 → z1.1 h = s1.1 h := fun h e => by rw [g1]; exact uI_ne _ _ _ _ e
  have v1 : ∀ x, z1.1 175 x = if x = 16 * fs.length + j.2.2.2.1 then v else s1.1 175 x := fun x => by rw [g1, uI_same, upd_g]
  refine ⟨z1, ?_, offG.tr a2 (by rw [g1]; exact oRn.wr (by unfold chRn; omega)), by
    rw [as_20 o]
    refine a3.top (f' := setV f j.2.2.2.1 v) rfl rfl rfl (fun h _ e => r1 h e) (fun x hx => by rw [r1 173 (by decide)]) (fun x hx => by rw [v1, if_neg (by omega)]) (by rw [r1 173 (by decide)]; exact a3.2.2.1.1.2.2.1) (fun x hx => ?_)
    rw [v1]
    show _ = if x = j.2.2.2.1 then v else f.2.2.2.1 x
    by_cases e : x = j.2.2.2.1
    · rw [if_pos e, if_pos (by omega)]
    · rw [if_neg e, if_neg (by omega)]; exact a3.2.2.1.1.2.2.2.1 x hx⟩
  rw [e_231]
  unfold f_231 b_231_0
  rw [xg_97_116, M.c16, xg_97_54, wa_143 (by omega), W.1.1, o, if_neg (by decide), if_neg (by decide), if_neg (by decide), if_neg (by decide), if_neg (by decide), if_neg (by decide), if_neg (by decide), if_neg (by decide), if_neg (by decide), if_neg (by decide), if_neg (by decide), if_neg (by decide), if_neg (by decide), if_neg (by decide), if_neg (by decide), if_neg (by decide), if_neg (by decide), if_neg (by decide), if_neg (by decide), if_pos rfl]
  unfold b_231_346
  rw [xg_97_115, xg_97_56, wa_145 (by omega), w3, xV_97, a1, bI_s, nI_pred, show (16 : Int32) * nI fs.length + nI j.2.2.2.1 = nI (16 * fs.length + j.2.2.2.1) by rw [show (16 : Int32) = nI 16 from rfl, nI_mul, nI_add], ws_175 (by omega), ← g1]
end MJB34
