/-! ===== the reference's act: say, return ===== -/
section MJB36
variable {T : TT} {N b wm cm k n d i i0 : Nat} {t : PT} {E : EV} {r : Row} {j : JS} {H : HEAP} {f g : FRM} {fs gs : List FRM} {st : List Int32} {sc : SCL} {s s' : mjSt3} {v : Int32}
theorem ac_24 (M : MRn T t b wm cm (H, f :: fs, k, v :: st, sc) s) (W : RwJ E b i r j s) (o : r.1 = 24) (hl : st.length < 8000) (hs : sc.2.1 < 100000000) : gAct T t b wm cm (aStep T t.1 E j i0 wm cm r (H, f :: fs, k, v :: st, sc)) s (mjF (d + 2) 231 [.ref 97, .int (nI (5000 * b + i))] (mjW0 s)) := by
  have hi := W.2.1
  have hb := W.2.2
  obtain ⟨s1, a1, a2, a3⟩ := x_238 (d := d) M hl
  have h6 : s1.1 97 106 = nI sc.2.1 := a3.1.2.1.2.2
  have key : ∀ z : mjSt3, (∀ h, ¬ h = 167 → z.1 h = s1.1 h) → (∀ x, x < 200 → x < sc.2.1 + 1 → z.1 167 x = if x = sc.2.1 ∧ x < 200 then v else sc.2.2.1 x) → MRn T t b wm cm (aStep T t.1 E j i0 wm cm r (H, f :: fs, k, v :: st, sc)) (uI z 97 (upd (z.1 97) 106 (nI (sc.2.1 + 1)))) := by
    intro z r1 r7
    obtain ⟨z1, g1⟩ : ∃ y, y = uI z 97 (upd (z.1 97) 106 (nI (sc.2.1 + 1))) := ⟨_, rfl⟩
    rw [← g1, as_24 o]
    have r2 : ∀ h, ¬ h = 97 → z1.1 h = z.1 h := fun h e => by rw [g1]; exact uI_ne _ _ _ _ e
    have v97 : ∀ x, z1.1 97 x = if x = 106 then nI (sc.2.1 + 1) else s1.1 97 x := fun x => by rw [g1, uI_same, upd_g, r1 97 (by decide)]
    have nn : ∀ x, ¬ x = 106 → z1.1 97 x = s1.1 97 x := fun x hx => by rw [v97, if_neg hx]
    have rr : ∀ h, ¬ h = 97 → ¬ h = 167 → z1.1 h = s1.1 h := fun h e1 e2 => by rw [r2 h e1, r1 h e2]
    obtain ⟨⟨⟨b1, b2', b3, b4⟩, ⟨b5, b6, b7⟩, ⟨b8, b9, b10⟩, ⟨b11, b12⟩, b13⟩, hH, hF, hT⟩ := a3
    obtain ⟨c1, c2, c3⟩ := hT f fs rfl
    refine ⟨⟨⟨by rw [nn 96 (by decide)]; exact b1, by rw [nn 97 (by decide)]; exact b2', by rw [nn 98 (by decide)]; exact b3, by rw [nn 99 (by decide)]; exact b4⟩, ⟨by rw [nn 100 (by decide)]; exact b5, by rw [nn 105 (by decide)]; exact b6, by rw [v97, if_pos rfl]⟩, ⟨by rw [nn 102 (by decide)]; exact b8, by rw [nn 103 (by decide)]; exact b9, by rw [nn 116 (by decide)]; exact b10⟩, ⟨by rw [nn 101 (by decide)]; exact b11, by rw [nn 104 (by decide)]; exact b12⟩, fun x h1 h2 => by rw [r2 167 (by decide)]; exact r7 x h1 h2⟩, hH.keep (fun x hx => rr x (by omega) (by omega)), FRr.keep (fun x hx => rr x (by omega) (by omega)) _ hF, fun g gs hg => ?_⟩
    have hg' : f = g := (List.cons.inj hg).1
    rw [← hg']
    exact ⟨by rw [nn 119 (by decide)]; exact c1, by rw [nn 118 (by decide)]; exact c2, STr.low st (fun x _ => by rw [rr 176 (by decide) (by decide)]) c3⟩
  have pre : mjF (d + 2) 231 [.ref 97, .int (nI (5000 * b + i))] (mjW0 s) = gI (mjW0 s1) 97 12 106 (fun v100 => (if (200 : Int32) ≤ v100 then b_231_493 (mjF (d + 1)) 97 (mjW0 s1) else gR (mjW0 s1) 97 12 107 (fun v101 => gI (mjW0 s1) 97 12 106 (fun v102 => sI (mjW0 s1) v101 v102 v (fun hp103 => b_231_493 (mjF (d + 1)) 97 hp103))))) := by
    rw [e_231]
    unfold f_231 b_231_0
    rw [xg_97_116, M.c16, xg_97_54, wa_143 (by omega), W.1.1, o, if_neg (by decide), if_neg (by decide), if_neg (by decide), if_neg (by decide), if_neg (by decide), if_neg (by decide), if_neg (by decide), if_neg (by decide), if_neg (by decide), if_neg (by decide), if_neg (by decide), if_neg (by decide), if_neg (by decide), if_neg (by decide), if_neg (by decide), if_neg (by decide), if_neg (by decide), if_neg (by decide), if_neg (by decide), if_neg (by decide), if_neg (by decide), if_neg (by decide), if_neg (by decide), if_pos rfl, xV_97, a1, bI_s]
  rw [pre, xg_97_106, h6]
  by_cases q : 200 ≤ sc.2.1
  · refine ⟨_, ?_, offG.tr a2 (oRn.wr (by unfold chRn; omega)), key s1 (fun h _ => rfl) (fun x h1 h2 => ?_)⟩
    · rw [if_pos (show (200 : Int32) ≤ nI sc.2.1 from nI_le (a := 200) q (by omega))]
      unfold b_231_493
      rw [xg_97_106, h6, xp_97_106, nI_1]
    · rw [if_neg (by omega)]
      exact a3.1.2.2.2.2 x h1 (by show x < sc.2.1; omega)
  · obtain ⟨z1, g1⟩ : ∃ y, y = uI s1 167 (upd (s1.1 167) sc.2.1 v) := ⟨_, rfl⟩
    have r1 : ∀ h, ¬ h = 167 → z1.1 h = s1.1 h := fun h e => by rw [g1]; exact uI_ne _ _ _ _ e
    refine ⟨_, ?_, offG.tr a2 (offG.tr (b := z1) (by rw [g1]; exact oRn.wr (by unfold chRn; omega)) (oRn.wr (by unfold chRn; omega))), key z1 r1 (fun x h1 h2 => ?_)⟩
    · rw [if_neg (show ¬ (200 : Int32) ≤ nI sc.2.1 from nI_ge (b := 200) (by omega) (by decide)), xg_97_107, xg_97_106, h6, ws_167 (by omega), ← g1]
      unfold b_231_493
      rw [xg_97_106, r1 97 (by decide), h6, xp_97_106, nI_1, r1 97 (by decide)]
    · rw [g1, uI_same, upd_g]
      by_cases e : x = sc.2.1
      · rw [if_pos e, if_pos ⟨e, h1⟩]
      · rw [if_neg e, if_neg (fun h => e h.1)]
        exact a3.1.2.2.2.2 x h1 (by show x < sc.2.1; omega)
/-- return -/
theorem x_244 (M : MRn T t b wm cm (H, f :: fs, k, st, sc) s) (hl : st.length < 8000) (hf : fs.length < 40) (v : Int32) : gAct T t b wm cm (aRet (H, f :: fs, k, st, sc) f fs v) s (mjF (d + 2) 244 [.ref 97, .int v] (mjW0 s)) := by
  obtain ⟨z1, g1⟩ : ∃ y, y = uI s 97 (upd (s.1 97) 116 (nI fs.length)) := ⟨_, rfl⟩
  have r1 : ∀ h, ¬ h = 97 → z1.1 h = s.1 h := fun h e => by rw [g1]; exact uI_ne _ _ _ _ e
  have v97 : ∀ x, z1.1 97 x = if x = 116 then nI fs.length else s.1 97 x := fun x => by rw [g1, uI_same, upd_g]
  have nn : ∀ x, ¬ x = 116 → z1.1 97 x = s.1 97 x := fun x hx => by rw [v97, if_neg hx]
  have o1 : oRn s z1 := by rw [g1]; exact oRn.wr (by unfold chRn; omega)
  have c16 := M.c16
  obtain ⟨⟨⟨b1, b2', b3, b4⟩, ⟨b5, b6, b7⟩, ⟨b8, b9, b10⟩, ⟨b11, b12⟩, b13⟩, hH, ⟨⟨d1, d2, d3, d4, d5⟩, d6⟩, hT⟩ := M
  obtain ⟨c1, c2, c3⟩ := hT f fs rfl
  have pre : mjF (d + 2) 244 [.ref 97, .int v] (mjW0 s) = (if nI fs.length = 0 then pI (mjW0 z1) 97 12 96 (2 : Int32) (fun hp9 => pI hp9 97 12 97 v (fun hp10 => some (none, hp10))) else gR (mjW0 z1) 97 12 114 (fun v4 => gI (mjW0 z1) 97 12 116 (fun v5 => aI (mjW0 z1) v4 v5 (fun v6 => pI (mjW0 z1) 97 12 119 v6 (fun hp7 => rV hp7 97 12 (bN (mjF (d + 1) 232 [.ref 97, .int v] hp7) (fun hp8 => some (none, hp8)))))))) := by
    rw [e_244]
    unfold f_244 b_244_0
    rw [xg_97_116, c16, nI_pred, xp_97_116, ← g1, xg_97_116, v97, if_pos rfl]
  rw [pre]
  cases fs with
  | nil =>
    obtain ⟨z2, g2⟩ : ∃ y, y = uI z1 97 (upd (z1.1 97) 96 2) := ⟨_, rfl⟩
    obtain ⟨z3, g3⟩ : ∃ y, y = uI z2 97 (upd (z2.1 97) 97 v) := ⟨_, rfl⟩
    have w97 : ∀ x, z3.1 97 x = if x = 97 then v else if x = 96 then 2 else if x = 116 then 0 else s.1 97 x := fun x => by rw [g3, uI_same, upd_g, g2, uI_same, upd_g, v97]; rfl
    have n3 : ∀ x, ¬ (x = 97 ∨ x = 96 ∨ x = 116) → z3.1 97 x = s.1 97 x := fun x hx => by rw [w97, if_neg (by omega), if_neg (by omega), if_neg (by omega)]
    have rr : ∀ h, ¬ h = 97 → z3.1 h = s.1 h := fun h e => by rw [g3, uI_ne _ _ _ _ e, g2, uI_ne _ _ _ _ e, r1 h e]
    refine ⟨z3, ?_, offG.tr o1 (offG.tr (b := z2) (by rw [g2]; exact oRn.wr (by unfold chRn; omega)) (by rw [g3]; exact oRn.wr (by unfold chRn; omega))), ⟨⟨by rw [w97, if_neg (by decide), if_pos rfl]; rfl, by rw [w97, if_pos rfl]; rfl, by rw [n3 98 (by omega)]; exact b3, by rw [n3 99 (by omega)]; exact b4⟩, ⟨by rw [n3 100 (by omega)]; exact b5, by rw [n3 105 (by omega)]; exact b6, by rw [n3 106 (by omega)]; exact b7⟩, ⟨by rw [n3 102 (by omega)]; exact b8, by rw [n3 103 (by omega)]; exact b9, by rw [w97, if_neg (by decide), if_neg (by decide), if_pos rfl]; rfl⟩, ⟨by rw [n3 101 (by omega)]; exact b11, by rw [n3 104 (by omega)]; exact b12⟩, fun x h1 h2 => by rw [rr 167 (by decide)]; exact b13 x h1 h2⟩, hH.keep (fun x hx => rr x (by omega)), trivial, fun g gs hg => by cases hg⟩
    rw [if_pos (show nI ([] : List FRM).length = 0 from rfl), xp_97_96, ← g2, xp_97_97, ← g3]
  | cons g gs =>
    obtain ⟨z2, g2⟩ : ∃ y, y = uI z1 97 (upd (z1.1 97) 119 (nI (i0T t g.1 + f.2.2.2.2))) := ⟨_, rfl⟩
    have w97 : ∀ x, z2.1 97 x = if x = 119 then nI (i0T t g.1 + f.2.2.2.2) else if x = 116 then nI (g :: gs).length else s.1 97 x := fun x => by rw [g2, uI_same, upd_g, v97]
    have n3 : ∀ x, ¬ (x = 119 ∨ x = 116) → z2.1 97 x = s.1 97 x := fun x hx => by rw [w97, if_neg (by omega), if_neg (by omega)]
    have rr : ∀ h, ¬ h = 97 → z2.1 h = s.1 h := fun h e => by rw [g2, uI_ne _ _ _ _ e, r1 h e]
    have M2 : MRn T t b wm cm (H, g :: gs, f.2.2.2.2, st, sc) z2 := by
      refine ⟨⟨⟨by rw [n3 96 (by omega)]; exact b1, by rw [n3 97 (by omega)]; exact b2', by rw [n3 98 (by omega)]; exact b3, by rw [n3 99 (by omega)]; exact b4⟩, ⟨by rw [n3 100 (by omega)]; exact b5, by rw [n3 105 (by omega)]; exact b6, by rw [n3 106 (by omega)]; exact b7⟩, ⟨by rw [n3 102 (by omega)]; exact b8, by rw [n3 103 (by omega)]; exact b9, by rw [w97, if_neg (by decide), if_pos rfl]⟩, ⟨by rw [n3 101 (by omega)]; exact b11, by rw [n3 104 (by omega)]; exact b12⟩, fun x h1 h2 => by rw [rr 167 (by decide)]; exact b13 x h1 h2⟩, hH.keep (fun x hx => rr x (by omega)), FRr.keep (fun x hx => rr x (by omega)) _ d6, fun g' gs' hg => ?_⟩
      have hg' : g = g' := (List.cons.inj hg).1
      rw [← hg']
      exact ⟨by rw [w97, if_pos rfl], by rw [n3 118 (by omega)]; exact c2, STr.low st (fun x _ => by rw [rr 176 (by decide)]) c3⟩
    obtain ⟨s3, p1, p2, p3⟩ := x_232 (d := d) M2 hl v
    refine ⟨s3, ?_, offG.tr o1 (offG.tr (b := z2) (by rw [g2]; exact oRn.wr (by unfold chRn; omega)) p2), p3⟩
    have ne : ¬ nI (g :: gs).length = 0 := fun e => by
      have := (nI_eq (a := (g :: gs).length) (b := 0) (by omega) (by omega)).mp e
      rw [List.length_cons] at this
      omega
    rw [if_neg ne, xg_97_114, xg_97_116, v97, if_pos rfl, wa_174 hf, r1 174 (by decide), d5 g gs rfl, xp_97_119, ← g2, xV_97, p1, bN_s]
theorem ac_28 (M : MRn T t b wm cm (H, f :: fs, k, v :: st, sc) s) (W : RwJ E b i r j s) (o : r.1 = 28) (h1 : r.2.2.1 = 1) (hl : st.length < 8000) (hf : fs.length < 40) : gAct T t b wm cm (aStep T t.1 E j i0 wm cm r (H, f :: fs, k, v :: st, sc)) s (mjF (d + 3) 231 [.ref 97, .int (nI (5000 * b + i))] (mjW0 s)) := by
  have hi := W.2.1
  have hb := W.2.2
  obtain ⟨s1, a1, a2, a3⟩ := x_238 (d := d + 1) M hl
  obtain ⟨s2, c1, c2, c3⟩ := x_244 (d := d) a3 hl hf v
  have e145 : s.1 145 (5000 * b + i) = 1 := by
    rw [W.1.2.2.1, ← h1]
    exact nA_9 (by rw [o]; decide)
  refine ⟨s2, ?_, offG.tr a2 c2, by rw [as_28 o, if_pos h1]; exact c3⟩
  rw [e_231]
  unfold f_231 b_231_0
  rw [xg_97_116, M.c16, xg_97_54, wa_143 (by omega), W.1.1, o, if_neg (by decide), if_neg (by decide), if_neg (by decide), if_neg (by decide), if_neg (by decide), if_neg (by decide), if_neg (by decide), if_neg (by decide), if_neg (by decide), if_neg (by decide), if_neg (by decide), if_neg (by decide), if_neg (by decide), if_neg (by decide), if_neg (by decide), if_neg (by decide), if_neg (by decide), if_neg (by decide), if_neg (by decide), if_neg (by decide), if_neg (by decide), if_neg (by decide), if_neg (by decide), if_neg (by decide), if_neg (by decide), if_neg (by decide), if_neg (by decide), if_pos rfl, xg_97_56, wa_145 (by omega), e145, if_pos rfl, xV_97, a1, bI_s]
  unfold b_231_538
  rw [xV_97, c1, bN_s]
theorem ac_28o (M : MRn T t b wm cm (H, f :: fs, k, st, sc) s) (W : RwJ E b i r j s) (o : r.1 = 28) (h1 : r.2.2.1 = 0) (hl : st.length < 8000) (hf : fs.length < 40) : gAct T t b wm cm (aStep T t.1 E j i0 wm cm r (H, f :: fs, k, st, sc)) s (mjF (d + 3) 231 [.ref 97, .int (nI (5000 * b + i))] (mjW0 s)) := by
  have hi := W.2.1
  have hb := W.2.2
  obtain ⟨s2, c1, c2, c3⟩ := x_244 (d := d) M hl hf 0
  have e145 : s.1 145 (5000 * b + i) = 0 := by
    rw [W.1.2.2.1, ← h1]
    exact nA_9 (by rw [o]; decide)
  refine ⟨s2, ?_, c2, by rw [as_28 o, if_neg (by rw [h1]; decide)]; exact c3⟩
  rw [e_231]
  unfold f_231 b_231_0
  rw [xg_97_116, M.c16, xg_97_54, wa_143 (by omega), W.1.1, o, if_neg (by decide), if_neg (by decide), if_neg (by decide), if_neg (by decide), if_neg (by decide), if_neg (by decide), if_neg (by decide), if_neg (by decide), if_neg (by decide), if_neg (by decide), if_neg (by decide), if_neg (by decide), if_neg (by decide), if_neg (by decide), if_neg (by decide), if_neg (by decide), if_neg (by decide), if_neg (by decide), if_neg (by decide), if_neg (by decide), if_neg (by decide), if_neg (by decide), if_neg (by decide), if_neg (by decide), if_neg (by decide), if_neg (by decide), if_neg (by decide), if_pos rfl, xg_97_56, wa_145 (by omega), e145, if_neg (by decide)]
  unfold b_231_538
  rw [xV_97, c1, bN_s]
end MJB36
