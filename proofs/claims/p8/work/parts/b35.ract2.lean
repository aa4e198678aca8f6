/-! ===== the reference's act: signs, jumps, say, return, FIELDS ===== -/
section MJB35
variable {T : TT} {N b wm cm k n d i i0 : Nat} {L : List CD} {t : PT} {E : EV} {r : Row} {j : JS} {H : HEAP} {f : FRM} {fs : List FRM} {st st' : List Int32} {sc : SCL} {s s' : mjSt3} {v w x y : Int32}
theorem MRn.fl (M : MRn T t b wm cm (aFail (H, f :: fs, k, st, sc) x y) s) : MRn T t b wm cm (aFail (H, f :: fs, k, st', sc) x y) s := ⟨M.1, M.2.1, M.2.2.1, fun g gs hg => by cases hg⟩
theorem nA_9 (o : r.1 = 9 ∨ r.1 = 13 ∨ r.1 = 7 ∨ r.1 = 14 ∨ r.1 = 21 ∨ r.1 = 22 ∨ r.1 = 23 ∨ r.1 = 28) : nA E r j = r.2.2.1 := by
  unfold nA
  rcases o with o | o | o | o | o | o | o | o <;> rw [o, if_neg (by decide), if_neg (by decide), if_neg (by decide)]
/-- two values and a sign -/
theorem x_239 (M : MRn T t b wm cm (H, f :: fs, k, w :: v :: st, sc) s) (W : RwJ E b i r j s) (o : r.1 = 9) (hl : st.length + 1 < 8000) : gAct T t b wm cm (match two2 r.2.2.1 v w with
    | none => aFail (H, f :: fs, k, w :: v :: st, sc) 2 r.2.1
    | some x => (H, f :: fs, k, x :: st, sc)) s (mjF (d + 2) 239 [.ref 97, .int (nI (5000 * b + i))] (mjW0 s)) := by
  have hi := W.2.1
  have hb := W.2.2
  obtain ⟨s1, a1, a2, a3⟩ := x_238 (d := d) M hl
  obtain ⟨s2, c1, c2, c3⟩ := x_238 (d := d) a3 (by omega)
  have o2 : oRn s s2 := offG.tr a2 c2
  have e145 : s2.1 145 (5000 * b + i) = r.2.2.1 := by
    rw [o2.1 145 _ (by unfold chRn; omega), W.1.2.2.1]
    exact nA_9 (Or.inl o)
  have e144 : s2.1 144 (5000 * b + i) = r.2.1 := by rw [o2.1 144 _ (by unfold chRn; omega)]; exact W.1.2.1
  have psh : ∀ x : Int32, ∃ s', mjF (d + 1) 232 [.ref 97, .int x] (mjW0 s2) = some (none, mjW0 s') ∧ oRn s s' ∧ MRn T t b wm cm (H, f :: fs, k, x :: st, sc) s' := fun x => by
    obtain ⟨s3, p1, p2, p3⟩ := x_232 (d := d) c3 (by omega) x
    exact ⟨s3, p1, offG.tr o2 p2, p3⟩
  have U : mjF (d + 2) 239 [.ref 97, .int (nI (5000 * b + i))] (mjW0 s) = f_239 (mjF (d + 1)) 97 (nI (5000 * b + i)) (mjW0 s) := rfl
  rw [U]
  unfold f_239 b_239_0
  rw [xV_97, a1, bI_s, xV_97, c1, bI_s, xg_97_56, wa_145 (by omega), e145]
  have dv : ∀ q : Int32, ¬ w = 0 → gAct T t b wm cm (H, f :: fs, k, q :: st, sc) s (rV (mjW0 s2) 97 12 (bN (mjF (d + 1) 232 [.ref 97, .int q] (mjW0 s2)) (fun hp1 => some (none, hp1)))) := fun q _ => by
    obtain ⟨s3, p1, p2, p3⟩ := psh q
    exact ⟨s3, by rw [xV_97, p1, bN_s], p2, p3⟩
  have pu : ∀ q : Int32, gAct T t b wm cm (H, f :: fs, k, q :: st, sc) s (rV (mjW0 s2) 97 12 (bN (mjF (d + 1) 232 [.ref 97, .int q] (mjW0 s2)) (fun hp1 => some (none, hp1)))) := fun q => by
    obtain ⟨s3, p1, p2, p3⟩ := psh q
    exact ⟨s3, by rw [xV_97, p1, bN_s], p2, p3⟩
  have fl : gAct T t b wm cm (aFail (H, f :: fs, k, w :: v :: st, sc) 2 r.2.1) s (rV (mjW0 s2) 97 12 (bN (mjF (d + 1) 234 [.ref 97, .int 2, .int r.2.1] (mjW0 s2)) (fun hp5 => some (none, hp5)))) := by
    obtain ⟨s3, p1, p2, p3⟩ := x_234 (d := d) c3 2 r.2.1
    exact ⟨s3, by rw [xV_97, p1, bN_s], offG.tr o2 p2, p3.fl⟩
  by_cases q37 : r.2.2.1 = 37
  · have t2 : two2 r.2.2.1 v w = if w = 0 then none else some (v - v / w * w) := by unfold two2; rw [q37, if_neg (by decide), if_neg (by decide), if_neg (by decide), if_neg (by decide), if_pos rfl]
    rw [t2, q37, if_pos rfl]
    unfold b_239_114
    by_cases w0 : w = 0
    · rw [if_pos w0, if_pos w0, xg_97_55, wa_144 (by omega), e144]; exact fl
    · rw [if_neg w0, if_neg w0, xg_97_56, wa_145 (by omega), e145, q37, if_neg (by decide), if_neg w0]; exact pu _
  by_cases q42 : r.2.2.1 = 42
  · have t2 : two2 r.2.2.1 v w = some (v * w) := by unfold two2; rw [q42, if_neg (by decide), if_neg (by decide), if_pos rfl]
    rw [t2, q42, if_neg (by decide), if_pos rfl]; exact pu _
  by_cases q43 : r.2.2.1 = 43
  · have t2 : two2 r.2.2.1 v w = some (v + w) := by unfold two2; rw [q43, if_pos rfl]
    rw [t2, q43, if_neg (by decide), if_neg (by decide), if_pos rfl]; exact pu _
  by_cases q45 : r.2.2.1 = 45
  · have t2 : two2 r.2.2.1 v w = some (v - w) := by unfold two2; rw [q45, if_neg (by decide), if_pos rfl]
    rw [t2, q45, if_neg (by decide), if_neg (by decide), if_neg (by decide), if_pos rfl]; exact pu _
  by_cases q47 : r.2.2.1 = 47
  · by_cases w0 : w = 0
    · have t2 : two2 r.2.2.1 v w = none := by unfold two2; rw [q47, if_neg (by decide), if_neg (by decide), if_neg (by decide), if_pos rfl, if_pos w0]
      rw [t2, q47, if_neg (by decide), if_neg (by decide), if_neg (by decide), if_neg (by decide), if_pos rfl]
      unfold b_239_114
      rw [if_pos w0, xg_97_55, wa_144 (by omega), e144]; exact fl
    · have t2 : two2 r.2.2.1 v w = some (v / w) := by unfold two2; rw [q47, if_neg (by decide), if_neg (by decide), if_neg (by decide), if_pos rfl, if_neg w0]
      rw [t2, q47, if_neg (by decide), if_neg (by decide), if_neg (by decide), if_neg (by decide), if_pos rfl]
      unfold b_239_114
      rw [if_neg w0, xg_97_56, wa_145 (by omega), e145, q47, if_pos rfl, if_neg w0]; exact pu _
  unfold two2
  rw [if_neg q37, if_neg q42, if_neg q43, if_neg q45, if_neg q47, if_neg q43, if_neg q45, if_neg q42, if_neg q47, if_neg q37]
  by_cases q60 : r.2.2.1 = 60
  · rw [if_pos q60, if_pos q60]
    by_cases g : w ≤ v
    · rw [if_pos g, if_pos g]; exact pu _
    · rw [if_neg g, if_neg g]; exact pu _
  rw [if_neg q60, if_neg q60]
  by_cases q257 : r.2.2.1 = 257
  · rw [if_pos q257, if_pos q257]
    by_cases g : v = w
    · rw [if_pos g, if_pos g]; exact pu _
    · rw [if_neg g, if_neg g]; exact pu _
  rw [if_neg q257, if_neg q257]
  by_cases g : v = w
  · rw [if_pos g, if_pos g]; exact pu _
  · rw [if_neg g, if_neg g]; exact pu _
theorem MRn.jmp (M : MRn T t b wm cm (H, f :: fs, k, st, sc) s) (x : Nat) : ∃ s', (pI (mjW0 s) 97 12 119 (nI (i0T t f.1 + x)) (fun hp3 => some (none, hp3)) : mjU) = some (none, mjW0 s') ∧ oRn s s' ∧ MRn T t b wm cm (H, f :: fs, x, st, sc) s' := by
  obtain ⟨z1, g1⟩ : ∃ y, y = uI s 97 (upd (s.1 97) 119 (nI (i0T t f.1 + x))) := ⟨_, rfl⟩
  have r1 : ∀ h, ¬ h = 97 → z1.1 h = s.1 h := fun h e => by rw [g1]; exact uI_ne _ _ _ _ e
  have v97 : ∀ y, z1.1 97 y = if y = 119 then nI (i0T t f.1 + x) else s.1 97 y := fun y => by rw [g1, uI_same, upd_g]
  have n : ∀ y, ¬ y = 119 → z1.1 97 y = s.1 97 y := fun y hy => by rw [v97, if_neg hy]
  obtain ⟨⟨⟨a1, a2, a3, a4⟩, ⟨a5, a6, a7⟩, ⟨a8, a9, a10⟩, ⟨a11, a12⟩, a13⟩, hH, hF, hT⟩ := M
  obtain ⟨c1, c2, c3⟩ := hT f fs rfl
  refine ⟨z1, by rw [xp_97_119, ← g1], by rw [g1]; exact oRn.wr (by unfold chRn; omega), ⟨⟨by rw [n 96 (by decide)]; exact a1, by rw [n 97 (by decide)]; exact a2, by rw [n 98 (by decide)]; exact a3, by rw [n 99 (by decide)]; exact a4⟩, ⟨by rw [n 100 (by decide)]; exact a5, by rw [n 105 (by decide)]; exact a6, by rw [n 106 (by decide)]; exact a7⟩, ⟨by rw [n 102 (by decide)]; exact a8, by rw [n 103 (by decide)]; exact a9, by rw [n 116 (by decide)]; exact a10⟩, ⟨by rw [n 101 (by decide)]; exact a11, by rw [n 104 (by decide)]; exact a12⟩, fun y h1 h2 => by rw [r1 167 (by decide)]; exact a13 y h1 h2⟩, hH.keep (fun y hy => r1 y (by omega)), FRr.keep (fun y hy => r1 y (by omega)) _ hF, fun g gs hg => ⟨?_, by rw [n 118 (by decide)]; exact c2, STr.low st (fun y _ => by rw [r1 176 (by decide)]) c3⟩⟩
  have hg' : f = g := (List.cons.inj hg).1
  rw [v97, if_pos rfl, ← hg']
theorem ac_9 (M : MRn T t b wm cm (H, f :: fs, k, w :: v :: st, sc) s) (W : RwJ E b i r j s) (o : r.1 = 9) (hl : st.length + 1 < 8000) : gAct T t b wm cm (aStep T t.1 E j i0 wm cm r (H, f :: fs, k, w :: v :: st, sc)) s (mjF (d + 3) 231 [.ref 97, .int (nI (5000 * b + i))] (mjW0 s)) := by
  have hi := W.2.1
  have hb := W.2.2
  obtain ⟨s1, a1, a2, a3⟩ := x_239 (d := d) M W o hl
  refine ⟨s1, ?_, a2, ?_⟩
  · rw [e_231]
    unfold f_231 b_231_0
    rw [xg_97_116, M.c16, xg_97_54, wa_143 (by omega), W.1.1, o, if_neg (by decide), if_neg (by decide), if_neg (by decide), if_neg (by decide), if_neg (by decide), if_neg (by decide), if_neg (by decide), if_neg (by decide), if_pos rfl, xV_97, a1, bN_s]
  · rw [as_9 o]
    exact a3
theorem ac_22 (M : MRn T t b wm cm (H, f :: fs, k, st, sc) s) (W : RwJ E b i r j s) (o : r.1 = 22) {x : Nat} (hx : r.2.2.1 = nI (i0T t f.1 + x)) (hn : nN r.2.2.1 - i0 = x) : gAct T t b wm cm (aStep T t.1 E j i0 wm cm r (H, f :: fs, k, st, sc)) s (mjF (d + 2) 231 [.ref 97, .int (nI (5000 * b + i))] (mjW0 s)) := by
  have hi := W.2.1
  have hb := W.2.2
  have e145 : s.1 145 (5000 * b + i) = nI (i0T t f.1 + x) := by
    rw [W.1.2.2.1, ← hx]
    exact nA_9 (by rw [o]; decide)
  obtain ⟨s1, a1, a2, a3⟩ := M.jmp x
  refine ⟨s1, ?_, a2, ?_⟩
  · rw [e_231]
    unfold f_231 b_231_0
    rw [xg_97_116, M.c16, xg_97_54, wa_143 (by omega), W.1.1, o, if_neg (by decide), if_neg (by decide), if_neg (by decide), if_neg (by decide), if_neg (by decide), if_neg (by decide), if_neg (by decide), if_neg (by decide), if_neg (by decide), if_neg (by decide), if_neg (by decide), if_neg (by decide), if_neg (by decide), if_neg (by decide), if_neg (by decide), if_neg (by decide), if_neg (by decide), if_neg (by decide), if_neg (by decide), if_neg (by decide), if_neg (by decide), if_pos rfl]
    unfold b_231_455
    rw [xg_97_56, wa_145 (by omega), e145, a1]
  · rw [as_22 (Or.inl o), hn]
    exact a3
theorem ac_23 (M : MRn T t b wm cm (H, f :: fs, k, st, sc) s) (W : RwJ E b i r j s) (o : r.1 = 23) {x : Nat} (hx : r.2.2.1 = nI (i0T t f.1 + x)) (hn : nN r.2.2.1 - i0 = x) : gAct T t b wm cm (aStep T t.1 E j i0 wm cm r (H, f :: fs, k, st, sc)) s (mjF (d + 2) 231 [.ref 97, .int (nI (5000 * b + i))] (mjW0 s)) := by
  have hi := W.2.1
  have hb := W.2.2
  have e145 : s.1 145 (5000 * b + i) = nI (i0T t f.1 + x) := by
    rw [W.1.2.2.1, ← hx]
    exact nA_9 (by rw [o]; decide)
  obtain ⟨s1, a1, a2, a3⟩ := M.jmp x
  refine ⟨s1, ?_, a2, ?_⟩
  · rw [e_231]
    unfold f_231 b_231_0
    rw [xg_97_116, M.c16, xg_97_54, wa_143 (by omega), W.1.1, o, if_neg (by decide), if_neg (by decide), if_neg (by decide), if_neg (by decide), if_neg (by decide), if_neg (by decide), if_neg (by decide), if_neg (by decide), if_neg (by decide), if_neg (by decide), if_neg (by decide), if_neg (by decide), if_neg (by decide), if_neg (by decide), if_neg (by decide), if_neg (by decide), if_neg (by decide), if_neg (by decide), if_neg (by decide), if_neg (by decide), if_neg (by decide), if_neg (by decide), if_pos rfl]
    unfold b_231_455
    rw [xg_97_56, wa_145 (by omega), e145, a1]
  · rw [as_22 (Or.inr o), hn]
    exact a3
theorem ac_21 (M : MRn T t b wm cm (H, f :: fs, k, v :: st, sc) s) (W : RwJ E b i r j s) (o : r.1 = 21) (hl : st.length < 8000) {x : Nat} (hx : r.2.2.1 = nI (i0T t f.1 + x)) (hn : nN r.2.2.1 - i0 = x) : gAct T t b wm cm (aStep T t.1 E j i0 wm cm r (H, f :: fs, k, v :: st, sc)) s (mjF (d + 2) 231 [.ref 97, .int (nI (5000 * b + i))] (mjW0 s)) := by
  have hi := W.2.1
  have hb := W.2.2
  obtain ⟨s1, a1, a2, a3⟩ := x_238 (d := d) M hl
  have e145 : s1.1 145 (5000 * b + i) = nI (i0T t f.1 + x) := by
    rw [a2.1 145 _ (by unfold chRn; omega), W.1.2.2.1, ← hx]
    exact nA_9 (by rw [o]; decide)
  have pre : mjF (d + 2) 231 [.ref 97, .int (nI (5000 * b + i))] (mjW0 s) = (if v = 0 then gR (mjW0 s1) 97 12 56 (fun v92 => aI (mjW0 s1) v92 (nI (5000 * b + i)) (fun v93 => pI (mjW0 s1) 97 12 119 v93 (fun hp94 => some (none, hp94)))) else some (none, mjW0 s1)) := by
    rw [e_231]
    unfold f_231 b_231_0
    rw [xg_97_116, M.c16, xg_97_54, wa_143 (by omega), W.1.1, o, if_neg (by decide), if_neg (by decide), if_neg (by decide), if_neg (by decide), if_neg (by decide), if_neg (by decide), if_neg (by decide), if_neg (by decide), if_neg (by decide), if_neg (by decide), if_neg (by decide), if_neg (by decide), if_neg (by decide), if_neg (by decide), if_neg (by decide), if_neg (by decide), if_neg (by decide), if_neg (by decide), if_neg (by decide), if_neg (by decide), if_pos rfl, xV_97, a1, bI_s]
  rw [as_21 o, pre]
  show gAct T t b wm cm (aSt (if v = 0 then aKs (H, f :: fs, k, v :: st, sc) (nN r.2.2.1 - i0) else (H, f :: fs, k, v :: st, sc)) st) s _
  by_cases v0 : v = 0
  · rw [if_pos v0, if_pos v0, hn]
    obtain ⟨s2, c1, c2, c3⟩ := a3.jmp x
    exact ⟨s2, by rw [xg_97_56, wa_145 (by omega), e145, c1], offG.tr a2 c2, c3⟩
  · rw [if_neg v0, if_neg v0]
    exact ⟨s1, rfl, a2, a3⟩
end MJB35
