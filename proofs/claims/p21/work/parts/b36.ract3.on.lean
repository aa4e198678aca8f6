section
/-! ===== the reference's act: say, return ===== -/
section MJB36
variable {T : TT} {N b wm cm k n d i i0 : Nat} {t : PT} {E : EV} {r : Row} {j : JS} {H : HEAP} {f g : FRM} {fs gs : List FRM} {st : List Int32} {sc : SCL} {s s' : mjSt3} {v : Int32}
theorem ac_24 (M : MRn T t b wm cm (H, f :: fs, k, v :: st, sc) s) (W : RwJ E b i r j s) (o : r.1 = 24) (hl : st.length < 8000) (hs : sc.2.1 < 100000000) : gAct T t b wm cm (aStep T t.1 E j i0 wm cm r (H, f :: fs, k, v :: st, sc)) s (mjF (d + 2) 231 [.ref 97, .int (nI (5000 * b + i))] (mjW0 s)) := by
  have hi := W.2.1
  have hb := W.2.2
  obtain ⟨s1, a1, a2, a3⟩ := x_238 (d := d) M hl
  have h6 : s1.1 97 106 = nI sc.2.1 := a3.1.2.1.2.2
  have key : ∀ z : mjSt3, (∀ h, ¬ h = 167 → z.1 h = s1.1 h) → (∀ x, x < 200 → x < sc.2.1 + 1 → z.1 167 x = if x = sc.2.1 ∧ x < 200 then v else sc.2.2.1 x) → MRn T t b wm cm (aStep T t.1 E j i0 wm cm r (H, f :: fs, k, v :: st, sc)) (uI z 97 (upd (z.1 97) 106 (nI (sc.2.1 + 1)))) := by
    intro z r1 r7
    obtain ⟨z1, g1⟩ : ∃ y, y = uI z 97 (upd (z.1 97) 106 (nI (sc.2.1 + 1))) := ⟨_, rfl⟩
    rw [← g1, as_24 o]
    have r2 : ∀ h, ¬ h = 97 → z1.1 h = z.1 h := fun h e => by rw [g1]; exact uI_ne _ _ _ _ e
    have v97 : ∀ x, z1.1 97 x = if x = 106 then nI (sc.2.1 + 1) else s1.1 97 x := fun x => by rw [g1, uI_same, upd_g, r1 97 (by decide)]
    have nn : ∀ x, ¬ x = 106 → z1.1 97 x = s1.1 97 x := fun x hx => by rw [v97, if_neg hx]
    have rr : ∀ h, ¬ h = 97 → ¬ h = 167 → z1.1 h = s1.1 h := fun h e1 e2 => by rw [r2 h e1, r1 h e2]
    obtain ⟨⟨⟨b1, b2', b3, b4⟩, ⟨b5, b6, b7⟩, ⟨b8, b9, b10⟩, ⟨b11, b12⟩, b13⟩, hH, hF, hT⟩ := a3
    obtain ⟨c1, c2, c3⟩ := hT f fs rfl
    refine ⟨⟨⟨by rw [nn 96 (by decide)]; exact b1, by rw [nn 97 (by decide)]; exact b2', by rw [nn 98 (by decide)]; exact b3, by rw [nn 99 (by decide)]; exact b4⟩, ⟨by rw [nn 100 (by decide)]; exact b5, by rw [nn 105 (by decide)]; exact b6, by rw [v97, if_pos rfl]⟩, ⟨by rw [nn 102 (by decide)]; exact b8, by rw [nn 103 (by decide)]; exact b9, by rw [nn 116 (by decide)]; exact b10⟩, ⟨by rw [nn 101 (by decide)]; exact b11, by rw [nn 104 (by decide)]; exact b12⟩, fun x h1 h2 => by rw [r2 167 (by decide)]; exact r7 x h1 h2⟩, hH.keep (fun x hx => rr x (by omega) (by omega)), FRr.keep (fun x hx => rr x (by omega) (by omega)) _ hF, fun g gs hg => ?_⟩
    have hg' : f = g := (List.cons.inj hg).1
    rw [← hg']
    exact ⟨by rw [nn 119 (by decide)]; exact c1, by rw [nn 118 (by decide)]; exact c2, STr.low st (fun x _ => by rw [rr 176 (by decide) (by decide)]) c3⟩
  have pre : mjF (d + 2) 231 [.ref 97, .int (nI (5000 * b + i))] (mjW0 s) = gI (mjW0 s1) 97 12 106 (fun v100 => (if (200 : Int32) ≤ v100 then b_231_493 (mjF (d + 1)) 97 (mjW0 s1) else gR (mjW0 s1) 97 12 107 (fun v101 => gI (mjW0 s1) 97 12 106 (fun v102 => sI (mjW0 s1) v101 v102 v (fun hp103 => b_231_493 (mjF (d + 1)) 97 hp103))))) := by
    rw [e_231]
    unfold f_231 b_231_0
    rw [xg_97_116, M.c16, xg_97_54, wa_143 (by omega), W.1.1, o, if_neg (by decide), if_neg (by decide), if_neg (by decide), if_neg (by decide), if_neg (by decide), if_neg (by decide), if_neg (by decide), if_neg (by decide), if_neg (by decide), if_neg (by decide), if_neg (by decide), if_neg (by decide), if_neg (by decide), if_neg (by decide), if_neg (by decide), if_neg (by decide), if_neg (by decide), if_neg (by decide), if_neg (by decide), if_neg (by decide), if_neg (by decide), if_neg (by decide), if_neg (by decide), if_pos rfl, xV_97, a1, bI_s]
  rw [pre, xg_97_106, h6]
  by_cases q : 200 ≤ sc.2.1
  · refine ⟨_, ?_, offG.tr a2 (oRn.wr (by unfold chRn; omega)), key s1 (fun h _ => rfl) (fun x h1 h2 => ?_)⟩
    · rw [if_pos (show (200 : Int32) ≤ nI sc.2.1 from nI_le (a := 200) q (by omega))]
      unfold b_231_493
      rw [xg_97_106, h6, xp_97_106, nI_1]
    · rw [if_neg (by omega)]
      exact a3.1.2.2.2.2 x h1 (by show x < sc.2.1; omega)
  · obtain ⟨z1, g1⟩ : ∃ y, y = uI s1 167 (upd (s1.1 167) sc.2.1 v) := ⟨_, rfl⟩
    have r1 : ∀ h, ¬ h = 167 → z1.1 h = s1.1 h := fun h e => by rw [g1]; exact uI_ne _ _ _ _ e
    refine ⟨_, ?_, offG.tr a2 (offG.tr (b := z1) (by rw [g1]; exact oRn.wr (by unfold chRn; omega)) (oRn.wr (by unfold chRn; omega))), key z1 r1 (fun x h1 h2 => ?_)⟩
    · rw [if_neg (show ¬ (200 : Int32) ≤ nI sc.2.1 from nI_ge (b := 200) (by omega) (by decide)), xg_97_107, xg_97_106, h6, ws_167 (by omega), ← g1]
      unfold b_231_493
      rw [xg_97_106, r1 97 (by decide), h6, xp_97_106, nI_1, r1 97 (by decide)]
    · rw [g1, uI_same, upd_g]
      by_cases e : x = sc.2.1
      · rw [if_pos e, if_pos ⟨e, h1⟩]
      · rw [if_neg e, if_neg (fun h => e h.1)]
        exact a3.1.2.2.2.2 x h1 (by show x < sc.2.1; omega)
/-- return -/
theorem x_244 (M : MRn T t b wm cm (H, f :: fs, k, st, sc) s) (hl : st.length < 8000) (hf : fs.length < 40) (v : Int32) : gAct T t b wm cm (aRet (H, f :: fs, k, st, sc) f fs v) s (mjF (d + 2) 244 [.ref 97, .int v] (mjW0 s)) := by
  obtain ⟨z1, g1⟩ : ∃ y, y = uI s 97 (upd (s.1 97) 116 (nI fs.length)) := ⟨_, rfl⟩
  have r1 : ∀ h, ¬ h = 97 → z1.1 h = s.1 h := fun h e => by rw [g1]; exact uI_ne _ _ _ _ e
  have v97 : ∀ x, z1.1 97 x = if x = 116 then nI fs.length else s.1 97 x := fun x => by rw [g1, uI_same, upd_g]
  have nn : ∀ x, ¬ x = 116 → z1.1 97 x = s.1 97 x := fun x hx => by rw [v97, if_neg hx]
  have o1 : oRn s z1 := by rw [g1]; exact oRn.wr (by unfold chRn; omega)
  have c16 := M.c16
  obtain ⟨⟨⟨b1, b2', b3, b4⟩, ⟨b5, b6, b7⟩, ⟨b8, b9, b10⟩, ⟨b11, b12⟩, b13⟩, hH, ⟨⟨d1, d2, d3, d4, d5⟩, d6⟩, hT⟩ := M
  obtain ⟨c1, c2, c3⟩ := hT f fs rfl
  have pre : mjF (d + 2) 244 [.ref 97, .int v] (mjW0 s) = (if nI fs.length = 0 then pI (mjW0 z1) 97 12 96 (2 : Int32) (fun hp9 => pI hp9 97 12 97 v (fun hp10 => some (none, hp10))) else gR (mjW0 z1) 97 12 114 (fun v4 => gI (mjW0 z1) 97 12 116 (fun v5 => aI (mjW0 z1) v4 v5 (fun v6 => pI (mjW0 z1) 97 12 119 v6 (fun hp7 => rV hp7 97 12 (bN (mjF (d + 1) 232 [.ref 97, .int v] hp7) (fun hp8 => some (none, hp8)))))))) := by
    rw [e_244]
    unfold f_244 b_244_0
    rw [xg_97_116, c16, nI_pred, xp_97_116, ← g1, xg_97_116, v97, if_pos rfl]
  rw [pre]
  cases fs with
  | nil =>
    obtain ⟨z2, g2⟩ : ∃ y, y = uI z1 97 (upd (z1.1 97) 96 2) := ⟨_, rfl⟩
    obtain ⟨z3, g3⟩ : ∃ y, y = uI z2 97 (upd (z2.1 97) 97 v) := ⟨_, rfl⟩
    have w97 : ∀ x, z3.1 97 x = if x = 97 then v else if x = 96 then 2 else if x = 116 then 0 else s.1 97 x := fun x => by rw [g3, uI_same, upd_g, g2, uI_same, upd_g, v97]; rfl
    have n3 : ∀ x, ¬ (x = 97 ∨ x = 96 ∨ x = 116) → z3.1 97 x = s.1 97 x := fun x hx => by rw [w97, if_neg (by omega), if_neg (by omega), if_neg (by omega)]
    have rr : ∀ h, ¬ h = 97 → z3.1 h = s.1 h := fun h e => by rw [g3, uI_ne _ _ _ _ e, g2, uI_ne _ _ _ _ e, r1 h e]
    refine ⟨z3, ?_, offG.tr o1 (offG.tr (b := z2) (by rw [g2]; exact oRn.wr (by unfold chRn; omega)) (by rw [g3]; exact oRn.wr (by unfold chRn; omega))), ⟨⟨by rw [w97, if_neg (by decide), if_pos rfl]; rfl, by rw [w97, if_pos rfl]; rfl, by rw [n3 98 (by omega)]; exact b3, by rw [n3 99 (by omega)]; exact b4⟩, ⟨by rw [n3 100 (by omega)]; exact b5, by rw [n3 105 (by omega)]; exact b6, by rw [n3 106 (by omega)]; exact b7⟩, ⟨by rw [n3 102 (by omega)]; exact b8, by rw [n3 103 (by omega)]; exact b9, by rw [w97, if_neg (by decide), if_neg (by decide), if_pos rfl]; rfl⟩, ⟨by rw [n3 101 (by omega)]; exact b11, by rw [n3 104 (by omega)]; exact b12⟩, fun x h1 h2 => by rw [rr 167 (by decide)]; exact b13 x h1 h2⟩, hH.keep (fun x hx => rr x (by omega)), trivial, fun g gs hg => by cases hg⟩
    rw [if_pos (show nI ([] : List FRM).length = 0 from rfl), xp_97_96, ← g2, xp_97_97, ← g3]
  | cons g gs =>
    obtain ⟨z2, g2⟩ : ∃ y, y = uI z1 97 (upd (z1.1 97) 119 (nI (i0T t g.1 + f.2.2.2.2))) := ⟨_, rfl⟩
    have w97 : ∀ x, z2.1 97 x = if x = 119 then nI (i0T t g.1 + f.2.2.2.2) else if x = 116 then nI (g :: gs).length else s.1 97 x := fun x => by rw [g2, uI_same, upd_g, v97]
    have n3 : ∀ x, ¬ (x = 119 ∨ x = 116) → z2.1 97 x = s.1 97 x := fun x hx => by rw [w97, if_neg (by omega), if_neg (by omega)]
    have rr : ∀ h, ¬ h = 97 → z2.1 h = s.1 h := fun h e => by rw [g2, uI_ne _ _ _ _ e, r1 h e]
    have M2 : MRn T t b wm cm (H, g :: gs, f.2.2.2.2, st, sc) z2 := by
      refine ⟨⟨⟨by rw [n3 96 (by omega)]; exact b1, by rw [n3 97 (by omega)]; exact b2', by rw [n3 98 (by omega)]; exact b3, by rw [n3 99 (by omega)]; exact b4⟩, ⟨by rw [n3 100 (by omega)]; exact b5, by rw [n3 105 (by omega)]; exact b6, by rw [n3 106 (by omega)]; exact b7⟩, ⟨by rw [n3 102 (by omega)]; exact b8, by rw [n3 103 (by omega)]; exact b9, by rw [w97, if_neg (by decide), if_pos rfl]⟩, ⟨by rw [n3 101 (by omega)]; exact b11, by rw [n3 104 (by omega)]; exact b12⟩, fun x h1 h2 => by rw [rr 167 (by decide)]; exact b13 x h1 h2⟩, hH.keep (fun x hx => rr x (by omega)), FRr.keep (fun x hx => rr x (by omega)) _ d6, fun g' gs' hg => ?_⟩
      have hg' : g = g' := (List.cons.inj hg).1
      rw [← hg']
      exact ⟨by rw [w97, if_pos rfl], by rw [n3 118 (by omega)]; exact c2, STr.low st (fun x _ => by rw [rr 176 (by decide)]) c3⟩
    obtain ⟨s3, p1, p2, p3⟩ := x_232 (d := d) M2 hl v
    refine ⟨s3, ?_, offG.tr o1 (offG.tr (b := z2) (by rw [g2]; exact oRn.wr (by unfold chRn; omega)) p2), p3⟩
    have ne : ¬ nI (g :: gs).length = 0 := fun e => by
      have := (nI_eq (a := (g :: gs).length) (b := 0) (by omega) (by omega)).mp e
      rw [List.length_cons] at this
      omega
    rw [if_neg ne, xg_97_114, xg_97_116, v97, if_pos rfl, wa_174 hf, r1 174 (by decide), d5 g gs rfl, xp_97_119, ← g2, xV_97, p1, bN_s]
theorem ac_28 (M : MRn T t b wm cm (H, f :: fs, k, v :: st, sc) s) (W : RwJ E b i r j s) (o : r.1 = 28) (h1 : r.2.2.1 = 1) (hl : st.length < 8000) (hf : fs.length < 40) : gAct T t b wm cm (aStep T t.1 E j i0 wm cm r (H, f :: fs, k, v :: st, sc)) s (mjF (d + 3) 231 [.ref 97, .int (nI (5000 * b + i))] (mjW0 s)) := by
  have hi := W.2.1
  have hb := W.2.2
  obtain ⟨s1, a1, a2, a3⟩ := x_238 (d := d + 1) M hl
  obtain ⟨s2, c1, c2, c3⟩ := x_244 (d := d) a3 hl hf v
  have e145 : s.1 145 (5000 * b + i) = 1 := by
    rw [W.1.2.2.1, ← h1]
    exact nA_9 (by rw [o]; decide)
  refine ⟨s2, ?_, offG.tr a2 c2, by rw [as_28 o, if_pos h1]; exact c3⟩
  rw [e_231]
  unfold f_231 b_231_0
  rw [xg_97_116, M.c16, xg_97_54, wa_143 (by omega), W.1.1, o, if_neg (by decide), if_neg (by decide), if_neg (by decide), if_neg (by decide), if_neg (by decide), if_neg (by decide), if_neg (by decide), if_neg (by decide), if_neg (by decide), if_neg (by decide), if_neg (by decide), if_neg (by decide), if_neg (by decide), if_neg (by decide), if_neg (by decide), if_neg (by decide), if_neg (by decide), if_neg (by decide), if_neg (by decide), if_neg (by decide), if_neg (by decide), if_neg (by decide), if_neg (by decide), if_neg (by decide), if_neg (by decide), if_neg (by decide), if_neg (by decide), if_pos rfl, xg_97_56, wa_145 (by omega), e145, if_pos rfl, xV_97, a1, bI_s]
  unfold b_231_538
  rw [xV_97, c1, bN_s]
theorem ac_28o (M : MRn T t b wm cm (H, f :: fs, k, st, sc) s) (W : RwJ E b i r j s) (o : r.1 = 28) (h1 : r.2.2.1 = 0) (hl : st.length < 8000) (hf : fs.length < 40) : gAct T t b wm cm (aStep T t.1 E j i0 wm cm r (H, f :: fs, k, st, sc)) s (mjF (d + 3) 231 [.ref 97, .int (nI (5000 * b + i))] (mjW0 s)) := by
  have hi := W.2.1
  have hb := W.2.2
  obtain ⟨s2, c1, c2, c3⟩ := x_244 (d := d) M hl hf 0
  have e145 : s.1 145 (5000 * b + i) = 0 := by
    rw [W.1.2.2.1, ← h1]
    exact nA_9 (by rw [o]; decide)
  refine ⟨s2, ?_, c2, by rw [as_28 o, if_neg (by rw [h1]; decide)]; exact c3⟩
  rw [e_231]
  unfold f_231 b_231_0
  rw [xg_97_116, M.c16, xg_97_54, wa_143 (by omega), W.1.1, o, if_neg (by decide), if_neg (by decide), if_neg (by decide), if_neg (by decide), if_neg (by decide), if_neg (by decide), if_neg (by decide), if_neg (by decide), if_neg (by decide), if_neg (by decide), if_neg (by decide), if_neg (by decide), if_neg (by decide), if_neg (by decide), if_neg (by decide), if_neg (by decide), if_neg (by decide), if_neg (by decide), if_neg (by decide), if_neg (by decide), if_neg (by decide), if_neg (by decide), if_neg (by decide), if_neg (by decide), if_neg (by decide), if_neg (by decide), if_neg (by decide), if_pos rfl, xg_97_56, wa_145 (by omega), e145, if_neg (by decide)]
  unfold b_231_538
  rw [xV_97, c1, bN_s]
end MJB36
end
section
/-! ===== the reference's act: FIELDS ===== -/
section MJB37
variable {T : TT} {N b wm cm k n d i i0 o1 m c : Nat} {L : List CD} {t : PT} {E : EV} {r : Row} {j : JS} {H : HEAP} {f : FRM} {fs : List FRM} {st : List Int32} {sc : SCL} {s s' : mjSt3} {v w : Int32}
theorem bs_mono (T : TT) (L : List CD) (H : HEAP) : ∀ (a c : Nat), bsH T L H a + 2 * c ≤ bsH T L H (a + c)
  | a, 0 => Nat.le_refl _
  | a, c + 1 => by
    have := bs_mono T L H a c
    show bsH T L H a + 2 * (c + 1) ≤ bsH T L H (a + c) + (2 + nmL L (H.2 (a + c + 1)).1 + fldT T L (H.2 (a + c + 1)).1)
    omega
theorem bs_3 (hn : HN T N L) (H : HEAP) : ∀ (o : Nat), (∀ x, 1 ≤ x → x ≤ o → (H.2 x).1 < L.length) → 3 * o ≤ bsH T L H o
  | 0, _ => Nat.le_refl _
  | o + 1, h => by
    have a := bs_3 hn H o (fun x h1 h2 => h x h1 (by omega))
    have n1 := (vK.n5 hn (h (o + 1) (by omega) (Nat.le_refl _))).1
    show 3 * (o + 1) ≤ bsH T L H o + (2 + nmL L (H.2 (o + 1)).1 + fldT T L (H.2 (o + 1)).1)
    omega
/-- an OBJECT's WORDS stand below the end -/
theorem fr_lt (T : TT) (L : List CD) (H : HEAP) (a1 : 1 ≤ o1) (a2 : o1 ≤ H.1) : frO T L H o1 + nmL L (H.2 o1).1 + fldT T L (H.2 o1).1 + 2 * o1 ≤ bsH T L H H.1 := by
  have m := bs_mono T L H o1 (H.1 - o1)
  rw [show o1 + (H.1 - o1) = H.1 by omega] at m
  have g := bs_ge T L H (o1 - 1)
  have e : bsH T L H o1 = bsH T L H (o1 - 1) + szO T L (H.2 o1).1 := by
    have : o1 = (o1 - 1) + 1 := by omega
    rw [this]
    rfl
  unfold szO at e
  unfold frO
  omega
theorem num_lt2 (Ac : ACY T N L) (hc : c < L.length) (hm : m < nMem L) (ms : mSM L m = false) (v : (vwT (nmL L) (abT T L) c (hmM L m)).isSome = true) : numM T L m < fldT T L c := by
  have n := num_fld (T := T) hm ms
  have f := ofl_fld (T := T) (c := hmM L m) Ac.1
  obtain ⟨x, hx⟩ := (vw_iff Ac hc).mp v
  cases x with
  | zero =>
    have e : c = hmM L m := by
      have : some c = some (hmM L m) := hx
      exact Option.some.inj this
    rw [e]
    omega
  | succ x =>
    have := fld_anc Ac x c (hmM L m) hc hx
    omega
theorem x_fld (h : HPr T L b H s) (hN : ∀ c, c < L.length → s.1 104 (16 * b + c) = nI (nmL L c)) (hn : HN T N L) (hH : HOK T L H) (hw : bsH T L H H.1 ≤ 4000) (hb : b ≤ 1) (a1 : 1 ≤ o1) (a2 : o1 ≤ H.1) (hi : i < fldT T L (H.2 o1).1) : o1 < 1400 ∧ s.1 170 o1 = nI (frO T L H o1) ∧ s.1 169 o1 = nI (16 * b + (H.2 o1).1) ∧ (H.2 o1).1 < 16 ∧ s.1 104 (16 * b + (H.2 o1).1) = nI (nmL L (H.2 o1).1) ∧ frO T L H o1 + nmL L (H.2 o1).1 + i < 4000 ∧ s.1 168 (frO T L H o1 + nmL L (H.2 o1).1 + i) = (H.2 o1).2.2 i := by
  obtain ⟨h1, h2, h3, h4⟩ := h o1 a1 a2
  have cl := (hH o1 a1 a2).1
  have l16 := hn.1
  have b3 := bs_3 hn H H.1 (fun x x1 x2 => (hH x x1 x2).1)
  have fr := fr_lt T L H a1 a2
  exact ⟨by omega, h2, h1, by omega, hN _ cl, by omega, h4 i hi⟩
theorem ac_10 (M : MRn T t b wm cm (H, f :: fs, k, v :: st, sc) s) (W : RwJ E b i r j s) (o : r.1 = 10) (hl : st.length < 8000) (hN : ∀ c, c < t.1.length → s.1 104 (16 * b + c) = nI (nmL t.1 c)) (hn : HN T N t.1) (hH : HOK T t.1 H) (hw : bsH T t.1 H H.1 ≤ 4000) {x : Nat × Bool} {p : Nat × Nat} (hj : j.1.headD (0, false) = x ∧ ¬ j.1 = []) (hp : prtE E x r.2.2.2.2 false = some p) (hv : v = 0 ∨ ∃ o1, v = nI o1 ∧ 1 ≤ o1 ∧ o1 ≤ H.1 ∧ slotJ E r j < fldT T t.1 (H.2 o1).1) : gAct T t b wm cm (aStep T t.1 E j i0 wm cm r (H, f :: fs, k, v :: st, sc)) s (mjF (d + 2) 231 [.ref 97, .int (nI (5000 * b + i))] (mjW0 s)) := by
  have hi := W.2.1
  have hb := W.2.2
  have e145 : s.1 145 (5000 * b + i) = nI (slotJ E r j) := by
    rw [W.1.2.2.1]
    show nA E r j = _
    unfold nA slotJ
    rw [o, if_neg (by decide), if_pos (by decide)]
    cases hj1 : j.1 with
    | nil => exact absurd hj1 hj.2
    | cons y ys =>
      have ey : y = x := by
        have := hj.1
        rw [hj1] at this
        exact this
      dsimp only
      rw [ey, hp]
  obtain ⟨s1, a1, a2, a3⟩ := x_238 (d := d) M hl
  have rr : ∀ h, h = 104 ∨ h = 144 ∨ h = 145 → s1.1 h = s.1 h := fun h hh => funext fun y => a2.1 h y (by unfold chRn; omega)
  have pre : mjF (d + 2) 231 [.ref 97, .int (nI (5000 * b + i))] (mjW0 s) = (if v = 0 then gR (mjW0 s1) 97 12 55 (fun v48 => aI (mjW0 s1) v48 (nI (5000 * b + i)) (fun v49 => rV (mjW0 s1) 97 12 (bN (mjF (d + 1) 234 [.ref 97, .int (1 : Int32), .int v49] (mjW0 s1)) (fun hp50 => some (none, hp50))))) else gR (mjW0 s1) 97 12 108 (fun v37 => gR (mjW0 s1) 97 12 110 (fun v38 => aI (mjW0 s1) v38 v (fun v39 => gR (mjW0 s1) 97 12 15 (fun v40 => gR (mjW0 s1) 97 12 109 (fun v41 => aI (mjW0 s1) v41 v (fun v42 => aI (mjW0 s1) v40 v42 (fun v43 => gR (mjW0 s1) 97 12 56 (fun v44 => aI (mjW0 s1) v44 (nI (5000 * b + i)) (fun v45 => aI (mjW0 s1) v37 ((v39 + v43) + v45) (fun v46 => rV (mjW0 s1) 97 12 (bN (mjF (d + 1) 232 [.ref 97, .int v46] (mjW0 s1)) (fun hp47 => some (none, hp47)))))))))))))) := by
    rw [e_231]
    unfold f_231 b_231_0
    rw [xg_97_116, M.c16, xg_97_54, wa_143 (by omega), W.1.1, o, if_neg (by decide), if_neg (by decide), if_neg (by decide), if_neg (by decide), if_neg (by decide), if_neg (by decide), if_neg (by decide), if_neg (by decide), if_neg (by decide), if_pos rfl, xV_97, a1, bI_s]
  rw [as_10 o, pre]
  show gAct T t b wm cm (if v = 0 then aFail (H, f :: fs, k, v :: st, sc) 1 r.2.1 else (H, f :: fs, k, (H.2 (nN v)).2.2 (slotJ E r j) :: st, sc)) s _
  by_cases v0 : v = 0
  · rw [if_pos v0, if_pos v0, xg_97_55, wa_144 (by omega), rr 144 (by omega), W.1.2.1]
    obtain ⟨s3, p1, p2, p3⟩ := x_234 (d := d) a3 1 r.2.1
    exact ⟨s3, by rw [xV_97, p1, bN_s], offG.tr a2 p2, p3.fl⟩
  · rw [if_neg v0, if_neg v0]
    obtain ⟨o1, q1, q2, q3, q4⟩ := hv.resolve_left v0
    obtain ⟨f1, f2, f3, f4, f5, f6, f7⟩ := x_fld a3.2.1 (fun c hc => by rw [rr 104 (by omega)]; exact hN c hc) hn hH hw hb q2 q3 q4
    obtain ⟨s3, p1, p2, p3⟩ := x_232 (d := d) a3 hl ((H.2 o1).2.2 (slotJ E r j))
    refine ⟨s3, ?_, offG.tr a2 p2, by rw [q1, nN_nI (by omega)]; exact p3⟩
    rw [q1, xg_97_108, xg_97_110, wa_170 f1, f2, xg_97_15, xg_97_109, wa_169 f1, f3, wa_104 (by omega), f5, xg_97_56, wa_145 (by omega), rr 145 (by omega), e145, nI_add, nI_add, wa_168 f6, f7, xV_97, p1, bN_s]
end MJB37
end
section
/-! ===== the reference's act: a FIELD is set ===== -/
section MJB38
variable {T : TT} {N b wm cm k n d i i0 o1 o2 m c : Nat} {L : List CD} {t : PT} {E : EV} {r : Row} {j : JS} {H : HEAP} {f : FRM} {fs : List FRM} {st : List Int32} {sc : SCL} {s s' : mjSt3} {v w : Int32}
theorem fr_end (T : TT) (L : List CD) (H : HEAP) (a1 : 1 ≤ o1) : frO T L H o1 + nmL L (H.2 o1).1 + fldT T L (H.2 o1).1 + 2 * o1 = bsH T L H o1 := by
  have g := bs_ge T L H (o1 - 1)
  have e : bsH T L H o1 = bsH T L H (o1 - 1) + szO T L (H.2 o1).1 := by
    have : o1 = (o1 - 1) + 1 := by omega
    rw [this]
    rfl
  unfold szO at e
  unfold frO
  omega
theorem fr_sep (T : TT) (L : List CD) (H : HEAP) (a1 : 1 ≤ o1) (a2 : o1 < o2) : frO T L H o1 + nmL L (H.2 o1).1 + fldT T L (H.2 o1).1 ≤ frO T L H o2 := by
  have e := fr_end T L H a1
  have g := bs_mono T L H o1 (o2 - 1 - o1)
  rw [show o1 + (o2 - 1 - o1) = o2 - 1 by omega] at g
  have eu : frO T L H o2 = bsH T L H (o2 - 1) - 2 * (o2 - 1) := rfl
  omega
theorem fr_set {x : Nat} (h : o1 ≤ H.1) : frO T L (setF H o2 x v) o1 = frO T L H o1 := by
  unfold frO
  rw [bs_same (H := H) (fun o p1 p2 => HX.set.2 o p1 p2) (o1 - 1) (by omega)]
theorem HPr.set (h : HPr T L b H s) (a1 : 1 ≤ o1) (a2 : o1 ≤ H.1) (hi : i < fldT T L (H.2 o1).1) (e9 : s'.1 169 = s.1 169) (e0 : s'.1 170 = s.1 170) (e8 : ∀ x, s'.1 168 x = if x = frO T L H o1 + nmL L (H.2 o1).1 + i then v else s.1 168 x) : HPr T L b (setF H o1 i v) s' := by
  intro o p1 p2
  have p2' : o ≤ H.1 := p2
  obtain ⟨h1, h2, h3, h4⟩ := h o p1 p2'
  have ec : ((setF H o1 i v).2 o).1 = (H.2 o).1 := HX.set.2 o p1 p2'
  have ex : (setF H o1 i v).2 o = if o = o1 then ((H.2 o1).1, (H.2 o1).2.1, fun y => if y = i then v else (H.2 o1).2.2 y) else H.2 o := rfl
  have sep : ¬ o = o1 → frO T L H o + nmL L (H.2 o).1 + fldT T L (H.2 o).1 ≤ frO T L H o1 ∨ frO T L H o1 + nmL L (H.2 o1).1 + fldT T L (H.2 o1).1 ≤ frO T L H o := by
    intro ne
    by_cases q : o < o1
    · exact Or.inl (fr_sep T L H p1 q)
    · exact Or.inr (fr_sep T L H a1 (by omega))
  rw [fr_set p2', ec, e9, e0]
  refine ⟨h1, h2, fun y hy => ?_, fun y hy => ?_⟩
  · rw [e8, if_neg, h3 y hy, ex]
    · by_cases e : o = o1
      · rw [if_pos e, e]
      · rw [if_neg e]
    · intro q
      by_cases e : o = o1
      · rw [e] at q hy
        omega
      · rcases sep e with g | g <;> omega
  · rw [e8, ex]
    by_cases e : o = o1
    · rw [if_pos e, e]
      dsimp only
      by_cases q : y = i
      · rw [if_pos q, if_pos (by omega)]
      · rw [if_neg q, if_neg (by omega)]
        rw [e] at h4 hy
        exact h4 y hy
    · rw [if_neg e, if_neg (fun q => by rcases sep e with g | g <;> omega)]
      exact h4 y hy
theorem ac_18 (M : MRn T t b wm cm (H, f :: fs, k, v :: w :: st, sc) s) (W : RwJ E b i r j s) (o : r.1 = 18) (hl : st.length + 1 < 8000) (hN : ∀ c, c < t.1.length → s.1 104 (16 * b + c) = nI (nmL t.1 c)) (hn : HN T N t.1) (hH : HOK T t.1 H) (hw : bsH T t.1 H H.1 ≤ 4000) (hv : w = 0 ∨ ∃ o1, w = nI o1 ∧ 1 ≤ o1 ∧ o1 ≤ H.1 ∧ j.2.2.2.2.2.2.1 < fldT T t.1 (H.2 o1).1) : gAct T t b wm cm (aStep T t.1 E j i0 wm cm r (H, f :: fs, k, v :: w :: st, sc)) s (mjF (d + 2) 231 [.ref 97, .int (nI (5000 * b + i))] (mjW0 s)) := by
  have hi := W.2.1
  have hb := W.2.2
  have e145 : s.1 145 (5000 * b + i) = nI j.2.2.2.2.2.2.1 := by
    rw [W.1.2.2.1]
    show nA E r j = _
    unfold nA
    rw [o, if_neg (by decide), if_neg (by decide), if_pos (by decide)]
  obtain ⟨s1, a1, a2, a3⟩ := x_238 (d := d) M (by show st.length + 1 < 8000; omega)
  obtain ⟨s2, c1, c2, c3⟩ := x_238 (d := d) a3 (by omega)
  have o2' : oRn s s2 := offG.tr a2 c2
  have rr : ∀ h, h = 104 ∨ h = 145 ∨ h = 146 → s2.1 h = s.1 h := fun h hh => funext fun y => o2'.1 h y (by unfold chRn; omega)
  have pre : mjF (d + 2) 231 [.ref 97, .int (nI (5000 * b + i))] (mjW0 s) = (if w = 0 then gR (mjW0 s2) 97 12 57 (fun v84 => aI (mjW0 s2) v84 (nI (5000 * b + i)) (fun v85 => rV (mjW0 s2) 97 12 (bN (mjF (d + 1) 234 [.ref 97, .int (1 : Int32), .int v85] (mjW0 s2)) (fun hp86 => some (none, hp86))))) else gR (mjW0 s2) 97 12 108 (fun v74 => gR (mjW0 s2) 97 12 110 (fun v75 => aI (mjW0 s2) v75 w (fun v76 => gR (mjW0 s2) 97 12 15 (fun v77 => gR (mjW0 s2) 97 12 109 (fun v78 => aI (mjW0 s2) v78 w (fun v79 => aI (mjW0 s2) v77 v79 (fun v80 => gR (mjW0 s2) 97 12 56 (fun v81 => aI (mjW0 s2) v81 (nI (5000 * b + i)) (fun v82 => sI (mjW0 s2) v74 ((v76 + v80) + v82) v (fun hp83 => some (none, hp83)))))))))))) := by
    rw [e_231]
    unfold f_231 b_231_0
    rw [xg_97_116, M.c16, xg_97_54, wa_143 (by omega), W.1.1, o, if_neg (by decide), if_neg (by decide), if_neg (by decide), if_neg (by decide), if_neg (by decide), if_neg (by decide), if_neg (by decide), if_neg (by decide), if_neg (by decide), if_neg (by decide), if_neg (by decide), if_neg (by decide), if_neg (by decide), if_neg (by decide), if_neg (by decide), if_neg (by decide), if_neg (by decide), if_pos rfl, xV_97, a1, bI_s, xV_97, c1, bI_s]
  rw [as_18 o, pre]
  show gAct T t b wm cm (if w = 0 then aFail (H, f :: fs, k, v :: w :: st, sc) 1 r.2.2.2.1 else (setF H (nN w) j.2.2.2.2.2.2.1 v, f :: fs, k, st, sc)) s _
  by_cases w0 : w = 0
  · rw [if_pos w0, if_pos w0, xg_97_57, wa_146 (by omega), rr 146 (by omega), W.1.2.2.2.1]
    obtain ⟨s3, p1, p2, p3⟩ := x_234 (d := d) c3 1 r.2.2.2.1
    exact ⟨s3, by rw [xV_97, p1, bN_s], offG.tr o2' p2, p3.fl⟩
  · rw [if_neg w0, if_neg w0]
    obtain ⟨o1, q1, q2, q3, q4⟩ := hv.resolve_left w0
    obtain ⟨f1, f2, f3, f4, f5, f6, f7⟩ := x_fld c3.2.1 (fun c hc => by rw [rr 104 (by omega)]; exact hN c hc) hn hH hw hb q2 q3 q4
    obtain ⟨z1, g1⟩ : ∃ y, y = uI s2 168 (upd (s2.1 168) (frO T t.1 H o1 + nmL t.1 (H.2 o1).1 + j.2.2.2.2.2.2.1) v) := ⟨_, rfl⟩
    have r1 : ∀ h, ¬ h = 168 → z1.1 h = s2.1 h := fun h e => by rw [g1]; exact uI_ne _ _ _ _ e
    refine ⟨z1, ?_, offG.tr o2' (by rw [g1]; exact oRn.wr (by unfold chRn; omega)), ?_⟩
    · rw [q1, xg_97_108, xg_97_110, wa_170 f1, f2, xg_97_15, xg_97_109, wa_169 f1, f3, wa_104 (by omega), f5, xg_97_56, wa_145 (by omega), rr 145 (by omega), e145, nI_add, nI_add, ws_168 f6, ← g1]
    · rw [q1, nN_nI (by omega)]
      have e97 := r1 97 (by decide)
      obtain ⟨⟨b1, b2', b3, b4, b5⟩, hHp, hF, hT⟩ := c3
      obtain ⟨t1, t2, t3⟩ := hT f fs rfl
      refine ⟨⟨by rw [e97]; exact b1, by rw [e97]; exact b2', ?_, by rw [e97]; exact b4, fun x h1 h2 => by rw [r1 167 (by decide)]; exact b5 x h1 h2⟩, hHp.set q2 q3 q4 (r1 169 (by decide)) (r1 170 (by decide)) (fun x => by rw [g1, uI_same, upd_g]), FRr.keep (fun x hx => r1 x (by omega)) _ hF, fun g gs hg => ?_⟩
      · rw [e97]
        have : bsH T t.1 (setF H o1 j.2.2.2.2.2.2.1 v) H.1 = bsH T t.1 H H.1 := bs_same (H := H) (fun o p1 p2 => HX.set.2 o p1 p2) H.1 (Nat.le_refl _)
        show s2.1 97 102 = nI (bsH T t.1 (setF H o1 j.2.2.2.2.2.2.1 v) H.1) ∧ _
        rw [this]
        exact b3
      · have hg' : f = g := (List.cons.inj hg).1
        rw [e97, ← hg']
        exact ⟨t1, t2, STr.low st (fun x _ => by rw [r1 176 (by decide)]) t3⟩
end MJB38
end
section
/-! ===== the reference's RUN: the OWNERS that an OBJECT's CLASS sees ===== -/
/-- the OBJECT's OWNERS (by q) as a CLASS above sees them -/
def UPw (L : List CD) (b : Nat) (s : mjSt3) (v : Nat) (q : Nat → Nat) : Prop := s.1 97 95 = nI (16 * b + cK v) ∧ ∀ i, i < nmL L (cK v) → s.1 165 i = nI (q (oK v i))
section MJB39
variable {T : TT} {d N b k n m v u : Nat} {L : List CD} {s s' : mjSt3} {q : Nat → Nat}
theorem L237_12 (R : mjR) (n a : Nat) (x y : Int32) (hp : mjH) : L_237_12 R (n + 1) a x y hp = b_237_12 R (L_237_12 R n) a x y hp := rfl
theorem L237_77 (R : mjR) (n a : Nat) (x y : Int32) (hp : mjH) : L_237_77 R (n + 1) a x y hp = b_237_77 R (L_237_77 R n) a x y hp := rfl
theorem lq_237a (hn : HN T N L) (hv : vK L v) (hu : vK L u) (hk : k < 1600) (hq : ∀ x, 5 ≤ x → q x = 0) (hnm : ∀ i, i < nmL L (cK u) → oK u i < 5 → oK u i < nmL L (cK v)) : ∀ (r i m : Nat) (s : mjSt3), i + r = 5 → r < m → UPw L b s v q → s.1 138 k = nI (nmL L (cK u)) → KRr b s k (nmL L (cK u)) u → (∀ x, x < i → x < nmL L (cK u) → s.1 166 x = nI (q (oK (stand (nmL L) u v) x))) → ∃ s', L_237_12 (mjF (d + 1)) m 97 (nI k) (nI i) (mjW0 s) = L_237_77 (mjF (d + 1)) mjN 97 (nI k) (nI 0) (mjW0 s') ∧ oUp s s' ∧ s'.1 165 = s.1 165 ∧ s'.1 97 = s.1 97 ∧ ∀ x, x < nmL L (cK u) → s'.1 166 x = nI (q (oK (stand (nmL L) u v) x))
  | r, i, 0, s, e, hr, U, h8, K, w => by omega
  | 0, i, m + 1, s, e, hr, U, h8, K, w => by
    have n5 := (vK.n5 hn (hu.cl hn)).2
    refine ⟨s, ?_, offG.rf, rfl, rfl, fun x hx => w x (by omega) hx⟩
    rw [L237_12]
    unfold b_237_12
    rw [if_pos (show (5 : Int32) ≤ nI i from nI_le (a := 5) (by omega) (by omega))]
    rfl
  | r + 1, i, m + 1, s, e, hr, U, h8, K, w => by
    have n5 := (vK.n5 hn (hu.cl hn)).2
    have nv5 := (vK.n5 hn (hv.cl hn)).2
    have go : ∀ x : Int32, (i < nmL L (cK u) → x = nI (q (oK (stand (nmL L) u v) i))) → L_237_12 (mjF (d + 1)) (m + 1) 97 (nI k) (nI i) (mjW0 s) = L_237_12 (mjF (d + 1)) m 97 (nI k) (nI (i + 1)) (mjW0 (uI s 166 (upd (s.1 166) i x))) → ∃ s', L_237_12 (mjF (d + 1)) (m + 1) 97 (nI k) (nI i) (mjW0 s) = L_237_77 (mjF (d + 1)) mjN 97 (nI k) (nI 0) (mjW0 s') ∧ oUp s s' ∧ s'.1 165 = s.1 165 ∧ s'.1 97 = s.1 97 ∧ ∀ x, x < nmL L (cK u) → s'.1 166 x = nI (q (oK (stand (nmL L) u v) x)) := by
      intro x hx pre
      have r1 : ∀ h, ¬ h = 166 → (uI s 166 (upd (s.1 166) i x)).1 h = s.1 h := fun h e => uI_ne _ _ _ _ e
      obtain ⟨s', b1, b2', b3, b4, b5⟩ := lq_237a hn hv hu hk hq hnm r (i + 1) m (uI s 166 (upd (s.1 166) i x)) (by omega) (by omega) ⟨by rw [r1 97 (by decide)]; exact U.1, fun y hy => by rw [r1 165 (by decide)]; exact U.2 y hy⟩ (by rw [r1 138 (by decide)]; exact h8) ⟨by rw [r1 139 (by decide)]; exact K.1, fun y hy => by rw [r1 142 (by decide)]; exact K.2 y hy⟩ (fun y hy hn' => by
        rw [uI_same, upd_g]
        by_cases e' : y = i
        · rw [if_pos e', hx (by omega), e']
        · rw [if_neg e']; exact w y (by omega) hn')
      have o1 : oUp s (uI s 166 (upd (s.1 166) i x)) := offG.w (Or.inr (Or.inr rfl))
      exact ⟨s', pre.trans b1, o1.tr b2', by rw [b3, r1 165 (by decide)], by rw [b4, r1 97 (by decide)], b5⟩
    by_cases g : i < nmL L (cK u)
    · have ou := hu.ow hn i (by omega)
      have so := stand_o (w := v) hn hu g
      by_cases o5 : oK u i < 5
      · have lt := hnm i g o5
        have eo : oR (oK u i) = nI (oK u i) := by unfold oR; rw [if_neg (by omega), if_neg (by omega)]
        refine go (nI (q (oK v (oK u i)))) (fun _ => by rw [so, if_pos o5]) ?_
        rw [L237_12]
        unfold b_237_12 b_237_68
        rw [if_neg (show ¬ (5 : Int32) ≤ nI i from nI_ge (b := 5) (by omega) (by decide)), xg_97_94, xg_97_49, wa_138 hk, h8, if_pos (nI_lt g (by omega)), xg_97_53, i5m, wa_142 (by omega), K.2 i g, eo, if_neg (nI_pos (by omega)), xg_97_93, xg_97_53, wa_142 (by omega), K.2 i g, eo, wa_165 (by omega), U.2 _ lt, ws_166 (by omega), nI_1]
      · have neg : oR (oK u i) < 0 := by
          unfold oR
          by_cases e5 : oK u i = 5
          · rw [if_pos e5]; decide
          · rw [if_neg e5, if_pos (by omega)]; decide
        refine go 0 (fun _ => by rw [so, if_neg o5, hq _ (by omega)]; rfl) ?_
        rw [L237_12]
        unfold b_237_12 b_237_68
        rw [if_neg (show ¬ (5 : Int32) ≤ nI i from nI_ge (b := 5) (by omega) (by decide)), xg_97_94, xg_97_49, wa_138 hk, h8, if_pos (nI_lt g (by omega)), xg_97_53, i5m, wa_142 (by omega), K.2 i g, if_pos neg, ws_166 (by omega), nI_1]
    · refine go 0 (fun h => absurd h g) ?_
      rw [L237_12]
      unfold b_237_12 b_237_68
      rw [if_neg (show ¬ (5 : Int32) ≤ nI i from nI_ge (b := 5) (by omega) (by decide)), xg_97_94, xg_97_49, wa_138 hk, h8, if_neg (nI_nlt (by omega) (by omega)), ws_166 (by omega), nI_1]
theorem lq_237b {f : Nat → Int32} {vc : Int32} (hk : k < 1600) : ∀ (r i m : Nat) (s : mjSt3), i + r = 5 → r < m → s.1 139 k = vc → s.1 166 = f → (∀ x, x < i → s.1 165 x = f x) → ∃ s', L_237_77 (mjF (d + 1)) m 97 (nI k) (nI i) (mjW0 s) = some (none, mjW0 s') ∧ oUp s s' ∧ s'.1 97 95 = vc ∧ ∀ x, x < 5 → s'.1 165 x = f x
  | r, i, 0, s, e, hr, h9, h6, w => by omega
  | 0, i, m + 1, s, e, hr, h9, h6, w => by
    refine ⟨uI s 97 (upd (s.1 97) 95 vc), ?_, offG.w (Or.inl ⟨rfl, rfl⟩), by rw [uI_same, upd_g, if_pos rfl], fun x hx => by rw [uI_ne _ _ _ _ (by decide)]; exact w x (by omega)⟩
    rw [L237_77]
    unfold b_237_77
    rw [if_pos (show (5 : Int32) ≤ nI i from nI_le (a := 5) (by omega) (by omega)), xg_97_50, wa_139 hk, h9, xp_97_95]
  | r + 1, i, m + 1, s, e, hr, h9, h6, w => by
    obtain ⟨z, hz⟩ : ∃ z, z = uI s 165 (upd (s.1 165) i (f i)) := ⟨_, rfl⟩
    obtain ⟨s', b1, b2', b3, b4⟩ := lq_237b (f := f) (vc := vc) hk r (i + 1) m z (by omega) (by omega) (by rw [hz, uI_ne _ _ _ _ (by decide)]; exact h9) (by rw [hz, uI_ne _ _ _ _ (by decide)]; exact h6) (fun x hx => by
      rw [hz, uI_same, upd_g]
      by_cases e' : x = i
      · rw [if_pos e', e']
      · rw [if_neg e']; exact w x (by omega))
    refine ⟨s', ?_, (show oUp s z by rw [hz]; exact offG.w (Or.inr (Or.inl rfl))).tr b2', b3, b4⟩
    rw [← b1, L237_77]
    unfold b_237_77
    rw [if_neg (show ¬ (5 : Int32) ≤ nI i from nI_ge (b := 5) (by omega) (by decide)), xg_97_93, xg_97_94, wa_166 (by omega), h6, ws_165 (by omega), ← hz, nI_1]
/-- riseNow -/
theorem x_237 (hb : b ≤ 1) (h16 : L.length ≤ 16) (hn : HN T N L) (hv : vK L v) (hq : ∀ x, 5 ≤ x → q x = 0) (U : UPw L b s v q) (A : ABr T L b s (cK v)) (hu : abT T L (cK v) = some u) : ∃ s', mjF (d + 2) 237 [.ref 97] (mjW0 s) = some (none, mjW0 s') ∧ oUp s s' ∧ UPw L b s' (stand (nmL L) u v) q ∧ vK L (stand (nmL L) u v) := by
  have hmj := mjN_v
  have vu := ab_v hn (hv.cl hn) hu
  have n5 := (vK.n5 hn (vu.cl hn)).2
  have cv := hv.cl hn
  unfold ABr at A
  rw [hu] at A
  obtain ⟨_, k, hk, k1, k2, k3⟩ := A
  obtain ⟨s1, a1, a2, a3, a4, a5⟩ := lq_237a (d := d) (b := b) hn hv vu hk hq (fun i hi h5 => ab_nm hn hu hi h5) 5 0 mjN s (by omega) (by omega) U k2 k3 (fun x hx => by omega)
  obtain ⟨s2, c1, c2, c3, c4⟩ := lq_237b (d := d) (f := s1.1 166) (vc := s1.1 139 k) hk 5 0 mjN s1 (by omega) (by omega) rfl rfl (fun x hx => by omega)
  have ec : cK (stand (nmL L) u v) = cK u := stand_c hn vu
  refine ⟨s2, ?_, a2.tr c2, ⟨?_, fun i hi => ?_⟩, vK.stand hn vu hv⟩
  · rw [e_237]
    unfold f_237 b_237_0
    rw [xg_97_16, xg_97_95, U.1, wa_105 (by omega), k1]
    exact a1.trans c1
  · rw [c3, ec, a2.1 139 k (by omega), k3.1]
  · rw [ec] at hi
    rw [c4 i (by omega), a5 i hi]
end MJB39
end
section
/-! ===== the reference's RUN: ownersOf, ownersNow ===== -/
/-- what ownersNow changes -/
def oNw : mjSt3 → mjSt3 → Prop := offG (fun h j => (h = 97 ∧ j = 95) ∨ h = 165 ∨ h = 166 ∨ h = 185) (fun _ _ => False)
/-- OBJECT o's own OWNERS -/
def owQ (L : List CD) (H : HEAP) (o x : Nat) : Nat := if x < nmL L (H.2 o).1 then (H.2 o).2.1 x else 0
section MJB40
variable {T : TT} {d N b k n m v u a o1 i kk wm cm : Nat} {L : List CD} {t : PT} {H : HEAP} {f : FRM} {fs : List FRM} {st : List Int32} {sc : SCL} {s s' : mjSt3} {q : Nat → Nat}
theorem oUp.Nw (o : oUp s s') : oNw s s' := offG.mono o (fun h j x => by omega) (fun _ _ x => x)
theorem oNw.Rn (o : oNw s s') : oRn s s' := offG.mono o (fun h j x => by unfold chRn; omega) (fun _ _ x => x)
theorem L236_12 (R : mjR) (n a : Nat) (x y w : Int32) (hp : mjH) : L_236_12 R (n + 1) a x y w hp = b_236_12 R (L_236_12 R n) a x y w hp := rfl
theorem L236_59 (R : mjR) (n a : Nat) (x : Int32) (hp : mjH) : L_236_59 R (n + 1) a x hp = b_236_59 R (L_236_59 R n) a x hp := rfl
theorem lq_236a (hn : HN T N L) (hb : b ≤ 1) (h16 : L.length ≤ 16) (hc : (H.2 o1).1 < L.length) (l4 : o1 < 1400) {tg : Int32} (hfr : frO T L H o1 + nmL L (H.2 o1).1 ≤ 4000) : ∀ (r i m : Nat) (s : mjSt3), i + r = 5 → r < m → s.1 97 95 = nI (16 * b + (H.2 o1).1) → s.1 104 (16 * b + (H.2 o1).1) = nI (nmL L (H.2 o1).1) → s.1 170 o1 = nI (frO T L H o1) → (∀ x, x < nmL L (H.2 o1).1 → s.1 168 (frO T L H o1 + x) = nI ((H.2 o1).2.1 x)) → (∀ x, x < i → x < nmL L (H.2 o1).1 → s.1 165 x = nI ((H.2 o1).2.1 x)) → ∃ s', L_236_12 (mjF (d + 2)) m 97 (nI o1) tg (nI i) (mjW0 s) = L_236_59 (mjF (d + 2)) mjN 97 tg (mjW0 s') ∧ oUp s s' ∧ s'.1 97 = s.1 97 ∧ ∀ x, x < nmL L (H.2 o1).1 → s'.1 165 x = nI ((H.2 o1).2.1 x)
  | r, i, 0, s, e, hr, h5, h4, h0, h8, w => by omega
  | 0, i, m + 1, s, e, hr, h5, h4, h0, h8, w => by
    have n5 := (vK.n5 hn hc).2
    refine ⟨s, ?_, offG.rf, rfl, fun x hx => w x (by omega) hx⟩
    rw [L236_12]
    unfold b_236_12
    rw [if_pos (show (5 : Int32) ≤ nI i from nI_le (a := 5) (by omega) (by omega))]
  | r + 1, i, m + 1, s, e, hr, h5, h4, h0, h8, w => by
    have n5 := (vK.n5 hn hc).2
    have go : ∀ x : Int32, (i < nmL L (H.2 o1).1 → x = nI ((H.2 o1).2.1 i)) → L_236_12 (mjF (d + 2)) (m + 1) 97 (nI o1) tg (nI i) (mjW0 s) = L_236_12 (mjF (d + 2)) m 97 (nI o1) tg (nI (i + 1)) (mjW0 (uI s 165 (upd (s.1 165) i x))) → ∃ s', L_236_12 (mjF (d + 2)) (m + 1) 97 (nI o1) tg (nI i) (mjW0 s) = L_236_59 (mjF (d + 2)) mjN 97 tg (mjW0 s') ∧ oUp s s' ∧ s'.1 97 = s.1 97 ∧ ∀ x, x < nmL L (H.2 o1).1 → s'.1 165 x = nI ((H.2 o1).2.1 x) := by
      intro x hx pre
      have r1 : ∀ h, ¬ h = 165 → (uI s 165 (upd (s.1 165) i x)).1 h = s.1 h := fun h e => uI_ne _ _ _ _ e
      obtain ⟨s', b1, b2', b3, b4⟩ := lq_236a hn hb h16 hc l4 hfr (tg := tg) r (i + 1) m (uI s 165 (upd (s.1 165) i x)) (by omega) (by omega) (by rw [r1 97 (by decide)]; exact h5) (by rw [r1 104 (by decide)]; exact h4) (by rw [r1 170 (by decide)]; exact h0) (fun y hy => by rw [r1 168 (by decide)]; exact h8 y hy) (fun y hy hy' => by
        rw [uI_same, upd_g]
        by_cases e' : y = i
        · rw [if_pos e', hx (by omega), e']
        · rw [if_neg e']; exact w y (by omega) hy')
      have o1' : oUp s (uI s 165 (upd (s.1 165) i x)) := offG.w (Or.inr (Or.inl rfl))
      exact ⟨s', pre.trans b1, o1'.tr b2', by rw [b3, r1 97 (by decide)], b4⟩
    by_cases g : i < nmL L (H.2 o1).1
    · refine go _ (fun _ => rfl) ?_
      rw [L236_12]
      unfold b_236_12 b_236_52
      rw [if_neg (show ¬ (5 : Int32) ≤ nI i from nI_ge (b := 5) (by omega) (by decide)), xg_97_93, xg_97_15, xg_97_95, h5, wa_104 (by omega), h4, if_neg (nI_ge g (by omega)), xg_97_108, xg_97_110, wa_170 l4, h0, nI_add, wa_168 (by omega), h8 i g, ws_165 (by omega), nI_1]
    · refine go 0 (fun h => absurd h g) ?_
      rw [L236_12]
      unfold b_236_12 b_236_52
      rw [if_neg (show ¬ (5 : Int32) ≤ nI i from nI_ge (b := 5) (by omega) (by decide)), xg_97_93, xg_97_15, xg_97_95, h5, wa_104 (by omega), h4, if_pos (nI_le (by omega) (by omega)), ws_165 (by omega), nI_1]
/-- up to the CLASS that is asked for -/
theorem lq_236b (Ac : ACY T N L) (hb : b ≤ 1) {c w : Nat} (hc : c < L.length) (hq : ∀ x, 5 ≤ x → q x = 0) : ∀ (r i m v : Nat) (s : mjSt3), chn (nmL L) (abT T L) c i = some v → chn (nmL L) (abT T L) c (i + r) = some w → i + r < 16 → r < m → UPw L b s v q → (∀ x, x < L.length → ABr T L b s x) → ∃ s', L_236_59 (mjF (d + 2)) m 97 (nI (16 * b + cK w)) (mjW0 s) = some (none, mjW0 s') ∧ oUp s s' ∧ UPw L b s' w q
  | r, i, 0, v, s, e1, e2, h16, hr, U, A => by omega
  | 0, i, m + 1, v, s, e1, e2, h16, hr, U, A => by
    have ev : v = w := by
      have e2' : chn (nmL L) (abT T L) c i = some w := e2
      rw [e1] at e2'
      exact Option.some.inj e2'
    refine ⟨s, ?_, offG.rf, by rw [← ev]; exact U⟩
    rw [L236_59]
    unfold b_236_59
    rw [xg_97_95, U.1, ev, if_pos rfl]
  | r + 1, i, m + 1, v, s, e1, e2, h16, hr, U, A => by
    have hn := Ac.1
    have l16 := hn.1
    have vv := chn_v hn hc i v e1
    have cv := vv.cl hn
    have cw := (chn_v hn hc _ w e2).cl hn
    have ne := chn_ne Ac hc e1 e2 (by omega) (by omega)
    cases hu : abT T L (cK v) with
    | none =>
      have z : chn (nmL L) (abT T L) c (i + 1) = none := by
        show (match chn (nmL L) (abT T L) c i with
          | none => none
          | some v => match abT T L (cK v) with
            | none => none
            | some u => some (stand (nmL L) u v)) = none
        rw [e1]
        dsimp only
        rw [hu]
      have := chn_none (nmL L) (abT T L) z r
      rw [show i + 1 + r = i + (r + 1) by omega, e2] at this
      cases this
    | some u' =>
      have z : chn (nmL L) (abT T L) c (i + 1) = some (stand (nmL L) u' v) := by
        show (match chn (nmL L) (abT T L) c i with
          | none => none
          | some v => match abT T L (cK v) with
            | none => none
            | some u => some (stand (nmL L) u v)) = _
        rw [e1]
        dsimp only
        rw [hu]
      obtain ⟨s1, a1, a2, a3, a4⟩ := x_237 (d := d) hb l16 hn vv hq U (A _ cv) hu
      obtain ⟨s', b1, b2', b3⟩ := lq_236b Ac hb hc hq r (i + 1) m (stand (nmL L) u' v) s1 z (by rw [show i + 1 + r = i + (r + 1) by omega]; exact e2) (by omega) (by omega) a3 (fun x hx => a2.A (A x hx))
      refine ⟨s', ?_, a2.tr b2', b3⟩
      rw [← b1, L236_59]
      unfold b_236_59
      rw [xg_97_95, U.1, if_neg (fun e => ne (by
        have := (nI_eq (by omega) (by omega)).mp e
        omega)), xV_97, a1, bN_s]
/-- ownersOf -/
theorem x_236 (Ac : ACY T N L) (hb : b ≤ 1) (h : HPr T L b H s) (hN : ∀ c, c < L.length → s.1 104 (16 * b + c) = nI (nmL L c)) (A : ∀ x, x < L.length → ABr T L b s x) (hH : HOK T L H) (hw : bsH T L H H.1 ≤ 4000) (a1 : 1 ≤ o1) (a2 : o1 ≤ H.1) (hv : vwT (nmL L) (abT T L) (H.2 o1).1 a = some v) : ∃ s', mjF (d + 3) 236 [.ref 97, .int (nI o1), .int (nI (16 * b + a))] (mjW0 s) = some (none, mjW0 s') ∧ oUp s s' ∧ ∀ i, i < nmL L a → s'.1 165 i = nI (seenO T L H o1 a i) := by
  have hmj := mjN_v
  have hn := Ac.1
  have l16 := hn.1
  obtain ⟨h1, h2, h3, h4⟩ := h o1 a1 a2
  have cl := (hH o1 a1 a2).1
  have n5 := (vK.n5 hn cl).2
  have b3 := bs_3 hn H H.1 (fun x x1 x2 => (hH x x1 x2).1)
  have fr := fr_lt T L H a1 a2
  obtain ⟨z, hz⟩ : ∃ z, z = uI s 97 (upd (s.1 97) 95 (nI (16 * b + (H.2 o1).1))) := ⟨_, rfl⟩
  have rz : ∀ h, ¬ h = 97 → z.1 h = s.1 h := fun h e => by rw [hz]; exact uI_ne _ _ _ _ e
  have oz : oUp s z := by rw [hz]; exact offG.w (Or.inl ⟨rfl, rfl⟩)
  obtain ⟨s1, c1, c2, c3, c4⟩ := lq_236a (d := d) (b := b) (tg := nI (16 * b + a)) hn hb l16 cl (by omega) (by omega) 5 0 mjN z (by omega) (by omega) (by rw [hz, uI_same, upd_g, if_pos rfl]) (by rw [rz 104 (by decide)]; exact hN _ cl) (by rw [rz 170 (by decide)]; exact h2) (fun x hx => by rw [rz 168 (by decide)]; exact h3 x hx) (fun x hx => by omega)
  obtain ⟨j, j1, j2, j3⟩ := vwk_at hv
  have oc : cK (own (nmL L) (H.2 o1).1) = (H.2 o1).1 := own_ck hn cl
  have U1 : UPw L b s1 (own (nmL L) (H.2 o1).1) (owQ L H o1) := by
    refine ⟨by rw [c3, hz, uI_same, upd_g, if_pos rfl, oc], fun i hi => ?_⟩
    rw [oc] at hi
    rw [c4 i hi, show oK (own (nmL L) (H.2 o1).1) i = i from mkK_o n5 (fun j hj => by show j < 8; omega) hi]
    unfold owQ
    rw [if_pos hi]
  obtain ⟨s2, e1, e2, e3⟩ := lq_236b (d := d) (w := v) Ac hb cl (fun x hx => by unfold owQ; rw [if_neg (by omega)]) j 0 mjN _ s1 rfl (by rw [Nat.zero_add]; exact j2) (by omega) (by omega) U1 (fun x hx => c2.A (oz.A (A x hx)))
  refine ⟨s2, ?_, oz.tr (c2.tr e2), fun i hi => ?_⟩
  · rw [e_236]
    unfold f_236 b_236_0
    rw [xg_97_109, wa_169 (by omega), h1, xp_97_95, ← hz, show (0 : Int32) = nI 0 from rfl, c1, ← j3]
    exact e1
  · have := e3.2 i (by rw [j3]; exact hi)
    rw [this]
    unfold seenO owQ
    rw [hv]
end MJB40
end
section
/-! ===== the reference's RUN: ownersNow ===== -/
section MJB41
variable {T : TT} {d N b k n m v u a o1 kx kk wm cm : Nat} {t : PT} {H : HEAP} {f : FRM} {fs : List FRM} {st : List Int32} {sc : SCL} {s s' : mjSt3}
theorem L235_S (R : mjR) (n a : Nat) (x y w : Int32) (hp : mjH) : L_235_40 R (n + 1) a x y w hp = b_235_40 R (L_235_40 R n) a x y w hp := rfl
theorem lq_235 {L : List CD} (hn : HN T N L) (vk : vK L kk) (hk : kx < 1600) (R : mjR) {fl self : Nat} (hfl : fl < 40) {g : Nat → Nat} (g5 : g 5 = 0) (g6 : g 6 = self) : ∀ (r i m : Nat) (s : mjSt3), i + r = nmL L (cK kk) → r < m → s.1 138 kx = nI (nmL L (cK kk)) → (∀ x, x < nmL L (cK kk) → s.1 142 (5 * kx + x) = oR (oK kk x)) → s.1 172 fl = nI self → (∀ x, x < nmL L (cK kk) → oK kk x < 5 → s.1 165 (oK kk x) = nI (g (oK kk x))) → (∀ x, x < i → s.1 185 x = nI (g (oK kk x))) → ∃ s', L_235_40 R m 97 (nI kx) (nI fl) (nI i) (mjW0 s) = some (none, mjW0 s') ∧ oNw s s' ∧ ∀ x, x < nmL L (cK kk) → s'.1 185 x = nI (g (oK kk x))
  | r, i, 0, s, e, hr, h8, h2, h7, h5, w => by omega
  | 0, i, m + 1, s, e, hr, h8, h2, h7, h5, w => by
    have n5 := (vK.n5 hn (vk.cl hn)).2
    refine ⟨s, ?_, offG.rf, fun x hx => w x (by omega)⟩
    rw [L235_S]
    unfold b_235_40
    rw [xg_97_49, wa_138 hk, h8, if_pos (nI_le (by omega) (by omega))]
  | r + 1, i, m + 1, s, e, hr, h8, h2, h7, h5, w => by
    have n5 := (vK.n5 hn (vk.cl hn)).2
    have hi : i < nmL L (cK kk) := by omega
    have ow := vk.ow hn i (by omega)
    have go : ∀ x : Int32, x = nI (g (oK kk i)) → L_235_40 R (m + 1) 97 (nI kx) (nI fl) (nI i) (mjW0 s) = L_235_40 R m 97 (nI kx) (nI fl) (nI (i + 1)) (mjW0 (uI s 185 (upd (s.1 185) i x))) → ∃ s', L_235_40 R (m + 1) 97 (nI kx) (nI fl) (nI i) (mjW0 s) = some (none, mjW0 s') ∧ oNw s s' ∧ ∀ x, x < nmL L (cK kk) → s'.1 185 x = nI (g (oK kk x)) := by
      intro x hx pre
      have r1 : ∀ h, ¬ h = 185 → (uI s 185 (upd (s.1 185) i x)).1 h = s.1 h := fun h e => uI_ne _ _ _ _ e
      obtain ⟨s', b1, b2', b3⟩ := lq_235 hn vk hk R hfl g5 g6 r (i + 1) m (uI s 185 (upd (s.1 185) i x)) (by omega) (by omega) (by rw [r1 138 (by decide)]; exact h8) (fun y hy => by rw [r1 142 (by decide)]; exact h2 y hy) (by rw [r1 172 (by decide)]; exact h7) (fun y hy hy' => by rw [r1 165 (by decide)]; exact h5 y hy hy') (fun y hy => by
        rw [uI_same, upd_g]
        by_cases e' : y = i
        · rw [if_pos e', hx, e']
        · rw [if_neg e']; exact w y (by omega))
      have o1' : oNw s (uI s 185 (upd (s.1 185) i x)) := offG.w (Or.inr (Or.inr (Or.inr rfl)))
      exact ⟨s', pre.trans b1, offG.tr o1' b2', b3⟩
    have base : L_235_40 R (m + 1) 97 (nI kx) (nI fl) (nI i) (mjW0 s) = (if oR (oK kk i) = (-1 : Int32) then b_235_100 R (L_235_40 R m) 97 (nI kx) (nI fl) (nI i) 185 (nI i) (0 : Int32) (mjW0 s) else (if oR (oK kk i) = (-2 : Int32) then gR (mjW0 s) 97 12 112 (fun v8 => aI (mjW0 s) v8 (nI fl) (fun v9 => b_235_100 R (L_235_40 R m) 97 (nI kx) (nI fl) (nI i) 185 (nI i) v9 (mjW0 s))) else gR (mjW0 s) 97 12 93 (fun v6 => aI (mjW0 s) v6 (oR (oK kk i)) (fun v7 => b_235_100 R (L_235_40 R m) 97 (nI kx) (nI fl) (nI i) 185 (nI i) v7 (mjW0 s))))) := by
      rw [L235_S]
      unfold b_235_40
      rw [xg_97_49, wa_138 hk, h8, if_neg (nI_ge hi (by omega)), xg_97_53, i5m, wa_142 (by omega), h2 i hi, xg_97_134]
    by_cases e5 : oK kk i = 5
    · refine go 0 (by rw [e5, g5]; rfl) ?_
      rw [base, e5, if_pos (show oR 5 = -1 from rfl)]
      unfold b_235_100
      rw [ws_185 (by omega), nI_1]
    · by_cases e6 : oK kk i = 6
      · refine go (nI self) (by rw [e6, g6]) ?_
        rw [base, e6, if_neg (show ¬ oR 6 = -1 by decide), if_pos (show oR 6 = -2 from rfl), xg_97_112, wa_172 hfl, h7]
        unfold b_235_100
        rw [ws_185 (by omega), nI_1]
      · have lt : oK kk i < 5 := by omega
        have eo : oR (oK kk i) = nI (oK kk i) := by unfold oR; rw [if_neg e5, if_neg e6]
        refine go _ rfl ?_
        rw [base, eo, if_neg (nI_m1 (by omega)), if_neg (nI_m2 (by omega)), xg_97_93, wa_165 lt, h5 i hi lt]
        unfold b_235_100
        rw [ws_185 (by omega), nI_1]
/-- ownersNow -/
theorem x_235 (Ac : ACY T N t.1) (hb : b ≤ 1) (M : MRn T t b wm cm (H, f :: fs, k, st, sc) s) (hN : ∀ c, c < t.1.length → s.1 104 (16 * b + c) = nI (nmL t.1 c)) (A : ∀ x, x < t.1.length → ABr T t.1 b s x) (hH : HOK T t.1 H) (hw : bsH T t.1 H H.1 ≤ 4000) (hfl : fs.length < 40) (m384 : nMem t.1 ≤ 384) (F : (f.1 = 384 ∧ f.2.1 = 0) ∨ (f.1 < nMem t.1 ∧ mSM t.1 f.1 = true ∧ 1 ≤ f.2.1 ∧ f.2.1 ≤ H.1 ∧ (vwT (nmL t.1) (abT T t.1) (H.2 f.2.1).1 (hmM t.1 f.1)).isSome = true)) (hC : f.1 < nMem t.1 → s.1 124 (400 * b + f.1) = nI (16 * b + hmM t.1 f.1)) (vk : vK t.1 kk) (hk : kx < 1600) (h8 : s.1 138 kx = nI (nmL t.1 (cK kk))) (h2 : ∀ x, x < nmL t.1 (cK kk) → s.1 142 (5 * kx + x) = oR (oK kk x)) (h5 : f.1 = 384 → ∀ x, x < nmL t.1 (cK kk) → oK kk x = 5) (hnm : f.1 < nMem t.1 → ∀ x, x < nmL t.1 (cK kk) → oK kk x < 5 → oK kk x < nmL t.1 (hmM t.1 f.1)) : ∃ s', mjF (d + 4) 235 [.ref 97, .int (nI kx)] (mjW0 s) = some (none, mjW0 s') ∧ oNw s s' ∧ ∀ x, x < nmL t.1 (cK kk) → s'.1 185 x = nI (hereO T t.1 H f.1 f.2.1 (oK kk x)) := by
  have hmj := mjN_v
  have hn := Ac.1
  have n5 := (vK.n5 hn (vk.cl hn)).2
  obtain ⟨⟨f1, f2, f3, f4, f5⟩, f6⟩ := M.2.2.1
  have g5 : hereO T t.1 H f.1 f.2.1 5 = 0 := if_pos (Or.inl rfl)
  have g6 : hereO T t.1 H f.1 f.2.1 6 = f.2.1 := by
    unfold hereO
    by_cases e : f.2.1 = 0
    · rw [if_pos (Or.inr e), e]
    · rw [if_neg (fun q => q.elim (fun h => by omega) e), if_pos rfl]
  rcases F with ⟨e1, e2⟩ | ⟨e1, e2, e3, e4, e5⟩
  · obtain ⟨s', a1, a2, a3⟩ := lq_235 (g := hereO T t.1 H f.1 f.2.1) (self := f.2.1) hn vk hk (mjF (d + 3)) hfl g5 g6 (nmL t.1 (cK kk)) 0 mjN s (by omega) (by omega) h8 h2 f2 (fun x hx hx' => by have := h5 e1 x hx; omega) (fun x hx => by omega)
    refine ⟨s', ?_, a2, a3⟩
    rw [e_235]
    unfold f_235 b_235_0
    rw [xg_97_116, M.c16, xg_97_111, nI_pred, wa_171 hfl, f1, show moM f.1 = none from if_pos e1, if_pos (show mR b none = -1 from rfl)]
    unfold b_235_38
    exact a1
  · have n384 : ¬ f.1 = 384 := by omega
    obtain ⟨vv, hv⟩ := Option.isSome_iff_exists.mp e5
    obtain ⟨s1, c1, c2, c3⟩ := x_236 (d := d) Ac hb M.2.1 hN A hH hw e3 e4 hv
    have r1 : ∀ h, h = 138 ∨ h = 142 ∨ h = 172 → s1.1 h = s.1 h := fun h hh => funext fun y => c2.1 h y (by omega)
    obtain ⟨s', a1, a2, a3⟩ := lq_235 (g := hereO T t.1 H f.1 f.2.1) (self := f.2.1) hn vk hk (mjF (d + 3)) hfl g5 g6 (nmL t.1 (cK kk)) 0 mjN s1 (by omega) (by omega) (by rw [r1 138 (by omega)]; exact h8) (fun x hx => by rw [r1 142 (by omega)]; exact h2 x hx) (by rw [r1 172 (by omega)]; exact f2) (fun x hx hx' => by
      rw [c3 _ (hnm e1 x hx hx')]
      unfold hereO
      rw [if_neg (fun q => q.elim (fun h => by omega) (fun h => by omega)), if_neg (by omega)]) (fun x hx => by omega)
    refine ⟨s', ?_, offG.tr c2.Nw a2, a3⟩
    have em : mR b (moM f.1) = nI (400 * b + f.1) := by rw [show moM f.1 = some f.1 from if_neg n384]; rfl
    rw [e_235]
    unfold f_235 b_235_0
    rw [xg_97_116, M.c16, xg_97_111, nI_pred, wa_171 hfl, f1, em, if_neg (nI_m1 (by omega)), xg_97_112, wa_172 hfl, f2, xg_97_35, xg_97_111, wa_171 hfl, f1, em, wa_124 (by omega), hC e1, xV_97, c1, bN_s]
    unfold b_235_38
    exact a1
end MJB41
end
section
/-! ===== the reference's RUN: as ===== -/
section MJB42
variable {T : TT} {d N b k n m v u a o1 kx kk c0 wm cm i i0 : Nat} {L : List CD} {t : PT} {E : EV} {r : Row} {j : JS} {H : HEAP} {f : FRM} {fs : List FRM} {st : List Int32} {sc : SCL} {s s' : mjSt3} {q : Nat → Nat}
theorem L243_23 (R : mjR) (n a : Nat) (x y w : Int32) (hp : mjH) : L_243_23 R (n + 1) a x y w hp = b_243_23 R (L_243_23 R n) a x y w hp := rfl
theorem L243_70 (R : mjR) (n a : Nat) (x : Int32) (hp : mjH) : L_243_70 R (n + 1) a x hp = b_243_70 R (L_243_70 R n) a x hp := rfl
theorem L243_124 (R : mjR) (n a : Nat) (x y w : Int32) (hp : mjH) : L_243_124 R (n + 1) a x y w hp = b_243_124 R (L_243_124 R n) a x y w hp := rfl
theorem lq_243a (hn : HN T N L) (hb : b ≤ 1) (h16 : L.length ≤ 16) (hc : (H.2 o1).1 < L.length) (l4 : o1 < 1400) {tg : Int32} (hfr : frO T L H o1 + nmL L (H.2 o1).1 ≤ 4000) : ∀ (r i m : Nat) (s : mjSt3), i + r = 5 → r < m → s.1 97 95 = nI (16 * b + (H.2 o1).1) → s.1 104 (16 * b + (H.2 o1).1) = nI (nmL L (H.2 o1).1) → s.1 170 o1 = nI (frO T L H o1) → (∀ x, x < nmL L (H.2 o1).1 → s.1 168 (frO T L H o1 + x) = nI ((H.2 o1).2.1 x)) → (∀ x, x < i → x < nmL L (H.2 o1).1 → s.1 165 x = nI ((H.2 o1).2.1 x)) → ∃ s', L_243_23 (mjF (d + 2)) m 97 (nI o1) tg (nI i) (mjW0 s) = L_243_70 (mjF (d + 2)) mjN 97 tg (mjW0 s') ∧ oUp s s' ∧ s'.1 97 = s.1 97 ∧ ∀ x, x < nmL L (H.2 o1).1 → s'.1 165 x = nI ((H.2 o1).2.1 x)
  | r, i, 0, s, e, hr, h5, h4, h0, h8, w => by omega
  | 0, i, m + 1, s, e, hr, h5, h4, h0, h8, w => by
    have n5 := (vK.n5 hn hc).2
    refine ⟨s, ?_, offG.rf, rfl, fun x hx => w x (by omega) hx⟩
    rw [L243_23]
    unfold b_243_23
    rw [if_pos (show (5 : Int32) ≤ nI i from nI_le (a := 5) (by omega) (by omega))]
  | r + 1, i, m + 1, s, e, hr, h5, h4, h0, h8, w => by
    have n5 := (vK.n5 hn hc).2
    have go : ∀ x : Int32, (i < nmL L (H.2 o1).1 → x = nI ((H.2 o1).2.1 i)) → L_243_23 (mjF (d + 2)) (m + 1) 97 (nI o1) tg (nI i) (mjW0 s) = L_243_23 (mjF (d + 2)) m 97 (nI o1) tg (nI (i + 1)) (mjW0 (uI s 165 (upd (s.1 165) i x))) → ∃ s', L_243_23 (mjF (d + 2)) (m + 1) 97 (nI o1) tg (nI i) (mjW0 s) = L_243_70 (mjF (d + 2)) mjN 97 tg (mjW0 s') ∧ oUp s s' ∧ s'.1 97 = s.1 97 ∧ ∀ x, x < nmL L (H.2 o1).1 → s'.1 165 x = nI ((H.2 o1).2.1 x) := by
      intro x hx pre
      have r1 : ∀ h, ¬ h = 165 → (uI s 165 (upd (s.1 165) i x)).1 h = s.1 h := fun h e => uI_ne _ _ _ _ e
      obtain ⟨s', b1, b2', b3, b4⟩ := lq_243a hn hb h16 hc l4 hfr (tg := tg) r (i + 1) m (uI s 165 (upd (s.1 165) i x)) (by omega) (by omega) (by rw [r1 97 (by decide)]; exact h5) (by rw [r1 104 (by decide)]; exact h4) (by rw [r1 170 (by decide)]; exact h0) (fun y hy => by rw [r1 168 (by decide)]; exact h8 y hy) (fun y hy hy' => by
        rw [uI_same, upd_g]
        by_cases e' : y = i
        · rw [if_pos e', hx (by omega), e']
        · rw [if_neg e']; exact w y (by omega) hy')
      have o1' : oUp s (uI s 165 (upd (s.1 165) i x)) := offG.w (Or.inr (Or.inl rfl))
      exact ⟨s', pre.trans b1, o1'.tr b2', by rw [b3, r1 97 (by decide)], b4⟩
    by_cases g : i < nmL L (H.2 o1).1
    · refine go _ (fun _ => rfl) ?_
      rw [L243_23]
      unfold b_243_23 b_243_63
      rw [if_neg (show ¬ (5 : Int32) ≤ nI i from nI_ge (b := 5) (by omega) (by decide)), xg_97_93, xg_97_15, xg_97_95, h5, wa_104 (by omega), h4, if_neg (nI_ge g (by omega)), xg_97_108, xg_97_110, wa_170 l4, h0, nI_add, wa_168 (by omega), h8 i g, ws_165 (by omega), nI_1]
    · refine go 0 (fun h => absurd h g) ?_
      rw [L243_23]
      unfold b_243_23 b_243_63
      rw [if_neg (show ¬ (5 : Int32) ≤ nI i from nI_ge (b := 5) (by omega) (by decide)), xg_97_93, xg_97_15, xg_97_95, h5, wa_104 (by omega), h4, if_pos (nI_le (by omega) (by omega)), ws_165 (by omega), nI_1]
theorem lq_243b (Ac : ACY T N L) (hb : b ≤ 1) {c : Nat} (hc : c < L.length) (h0 : c0 < L.length) (hk : kx < 1600) (hq : ∀ x, 5 ≤ x → q x = 0) : ∀ (r i m v : Nat) (s : mjSt3), chn (nmL L) (abT T L) c i = some v → i + r = 16 → r < m → UPw L b s v q → s.1 139 kx = nI (16 * b + c0) → (∀ x, x < L.length → ABr T L b s x) → ∃ s' w y, L_243_70 (mjF (d + 2)) m 97 (nI kx) (mjW0 s) = b_243_102 (mjF (d + 2)) 97 (nI kx) (mjW0 s') ∧ oUp s s' ∧ UPw L b s' w q ∧ i ≤ y ∧ chn (nmL L) (abT T L) c y = some w ∧ (cK w = c0 ∨ abT T L (cK w) = none) ∧ ∀ y', i ≤ y' → y' < y → ∀ v', chn (nmL L) (abT T L) c y' = some v' → ¬ cK v' = c0
  | r, i, 0, v, s, e1, e2, hr, U, h9, A => by omega
  | 0, i, m + 1, v, s, e1, e2, hr, U, h9, A => by
    have := up_end Ac hc (chn_c Ac.1 hc i v e1)
    omega
  | r + 1, i, m + 1, v, s, e1, e2, hr, U, h9, A => by
    have hn := Ac.1
    have l16 := hn.1
    have vv := chn_v hn hc i v e1
    have cv := vv.cl hn
    by_cases ec : cK v = c0
    · refine ⟨s, v, i, ?_, offG.rf, U, Nat.le_refl _, e1, Or.inl ec, fun y' h1 h2 => by omega⟩
      rw [L243_70]
      unfold b_243_70
      rw [xg_97_95, U.1, xg_97_50, wa_139 hk, h9, ec, if_pos rfl]
    · have ne : ¬ nI (16 * b + cK v) = nI (16 * b + c0) := fun e => ec (by
        have := (nI_eq (by omega) (by omega)).mp e
        omega)
      have base : L_243_70 (mjF (d + 2)) (m + 1) 97 (nI kx) (mjW0 s) = (if cR b (upT T L (cK v)) = (-1 : Int32) then b_243_102 (mjF (d + 2)) 97 (nI kx) (mjW0 s) else rV (mjW0 s) 97 12 (bN (mjF (d + 2) 237 [.ref 97] (mjW0 s)) (fun hp7 => L_243_70 (mjF (d + 2)) m 97 (nI kx) hp7))) := by
        rw [L243_70]
        unfold b_243_70
        rw [xg_97_95, U.1, xg_97_50, wa_139 hk, h9, if_neg ne, xg_97_95, U.1, xV_97, x_242 (d := d + 1) hb l16 hn cv (A _ cv), bI_s]
      cases hu : abT T L (cK v) with
      | none =>
        have up0 : upT T L (cK v) = none := by unfold upT; rw [hu]; rfl
        exact ⟨s, v, i, by rw [base, up0, if_pos (show cR b none = -1 from rfl)], offG.rf, U, Nat.le_refl _, e1, Or.inr hu, fun y' h1 h2 => by omega⟩
      | some u' =>
        have up1 : upT T L (cK v) = some (cK u') := by unfold upT; rw [hu]; rfl
        have z : chn (nmL L) (abT T L) c (i + 1) = some (stand (nmL L) u' v) := by
          show (match chn (nmL L) (abT T L) c i with
            | none => none
            | some v => match abT T L (cK v) with
              | none => none
              | some u => some (stand (nmL L) u v)) = _
          rw [e1]
          dsimp only
          rw [hu]
        have cu := (ab_v hn cv hu).cl hn
        obtain ⟨s1, a1, a2, a3, a4⟩ := x_237 (d := d) hb l16 hn vv hq U (A _ cv) hu
        obtain ⟨s', w, y, b1, b2', b3, b4, b5, b6, b7⟩ := lq_243b Ac hb hc h0 hk hq r (i + 1) m (stand (nmL L) u' v) s1 z (by omega) (by omega) a3 (by rw [a2.1 139 kx (by omega)]; exact h9) (fun x hx => a2.A (A x hx))
        refine ⟨s', w, y, ?_, a2.tr b2', b3, by omega, b5, b6, fun y' h1 h2 v' hv' => ?_⟩
        · rw [base, up1, if_neg (show ¬ cR b (some (cK u')) = -1 from nI_m1 (show 16 * b + cK u' < 2 ^ 31 by omega)), xV_97, a1, bN_s]
          exact b1
        · by_cases e : y' = i
          · rw [e, e1] at hv'
            rw [← Option.some.inj hv']
            exact ec
          · exact b7 y' (by omega) h2 v' hv'
theorem lq_243c (R : mjR) (hk : kx < 1600) (n5 : n ≤ 5) {g : Nat → Bool} : ∀ (r i m : Nat) (x : Bool), i + r = n → r < m → s.1 138 kx = nI n → (∀ y, y < n → x = true → (s.1 165 y = s.1 185 y ↔ g y = true)) → ∃ bb : Bool, L_243_124 R m 97 (nI kx) (b2 x) (nI i) (mjW0 s) = some (some (.int (b2 bb)), mjW0 s) ∧ (bb = true ↔ x = true ∧ ∀ y, i ≤ y → y < n → g y = true)
  | r, i, 0, x, e, hr, h8, hg => by omega
  | 0, i, m + 1, x, e, hr, h8, hg => by
    refine ⟨x, ?_, ⟨fun h => ⟨h, fun y h1 h2 => by omega⟩, fun h => h.1⟩⟩
    rw [L243_124]
    unfold b_243_124 b_243_168
    rw [xg_97_49, wa_138 hk, h8, if_pos (nI_le (by omega) (by omega)), if_pos (b2_nar x)]
  | r + 1, i, m + 1, x, e, hr, h8, hg => by
    cases x with
    | false =>
      refine ⟨false, ?_, ⟨fun h => (by cases h), fun h => h.1⟩⟩
      rw [L243_124]
      unfold b_243_124 b_243_168
      rw [xg_97_49, wa_138 hk, h8, if_neg (nI_ge (show i < n by omega) (by omega)), if_pos (show b2 false = 0 from rfl), if_pos (b2_nar false)]
    | true =>
      have ig := hg i (by omega) rfl
      obtain ⟨bb, c1, c2⟩ := lq_243c R hk n5 (g := g) r (i + 1) m (g i) (by omega) (by omega) h8 (fun y hy _ => hg y hy rfl)
      refine ⟨bb, ?_, c2.trans ⟨fun ⟨h1, h2⟩ => ⟨rfl, fun y h3 h4 => ?_⟩, fun ⟨_, h2⟩ => ⟨h2 i (Nat.le_refl _) (by omega), fun y h3 h4 => h2 y (by omega) h4⟩⟩⟩
      · rw [L243_124]
        unfold b_243_124 b_243_161
        rw [xg_97_49, wa_138 hk, h8, if_neg (nI_ge (show i < n by omega) (by omega)), if_neg (show ¬ b2 true = 0 by decide), xg_97_93, wa_165 (by omega), xg_97_134, wa_185 (by omega)]
        cases hgi : g i with
        | true => rw [if_pos (ig.mpr hgi), nI_1]; rw [hgi] at c1; exact c1
        | false => rw [if_neg (fun h => by rw [ig.mp h] at hgi; cases hgi), nI_1]; rw [hgi] at c1; exact c1
      · by_cases e' : y = i
        · rw [e']; exact h1
        · exact h2 y (by omega) h4
end MJB42
end
section
/-! ===== the reference's RUN: as, all of it ===== -/
/-- what ownersNow goes by: the last CALL, a KIND of its BLOCK -/
def NWk (T : TT) (t : PT) (b : Nat) (H : HEAP) (f : FRM) (kx kk : Nat) (s : mjSt3) : Prop := ((f.1 = 384 ∧ f.2.1 = 0) ∨ (f.1 < nMem t.1 ∧ mSM t.1 f.1 = true ∧ 1 ≤ f.2.1 ∧ f.2.1 ≤ H.1 ∧ (vwT (nmL t.1) (abT T t.1) (H.2 f.2.1).1 (hmM t.1 f.1)).isSome = true)) ∧ (f.1 < nMem t.1 → s.1 124 (400 * b + f.1) = nI (16 * b + hmM t.1 f.1)) ∧ vK t.1 kk ∧ kx < 1600 ∧ s.1 138 kx = nI (nmL t.1 (cK kk)) ∧ (∀ x, x < nmL t.1 (cK kk) → s.1 142 (5 * kx + x) = oR (oK kk x)) ∧ s.1 139 kx = nI (16 * b + cK kk) ∧ (f.1 = 384 → ∀ x, x < nmL t.1 (cK kk) → oK kk x = 5) ∧ (f.1 < nMem t.1 → ∀ x, x < nmL t.1 (cK kk) → oK kk x < 5 → oK kk x < nmL t.1 (hmM t.1 f.1))
/-- what a RUN reads of the program's CLASSES -/
def PGn (T : TT) (t : PT) (b : Nat) (s : mjSt3) : Prop := (∀ c, c < t.1.length → s.1 104 (16 * b + c) = nI (nmL t.1 c)) ∧ ∀ x, x < t.1.length → ABr T t.1 b s x
section MJB43
variable {T : TT} {d N b k n m v u a o1 kx kk wm cm i i0 : Nat} {t : PT} {E : EV} {r : Row} {j : JS} {H : HEAP} {f : FRM} {fs : List FRM} {st : List Int32} {sc : SCL} {s s' : mjSt3} {w : Int32}
theorem seen_lt {L : List CD} (hH : HOK T L H) (a1 : 1 ≤ o1) (a2 : o1 ≤ H.1) (x : Nat) : seenO T L H o1 a x ≤ H.1 := by
  unfold seenO
  cases vwT (nmL L) (abT T L) (H.2 o1).1 a with
  | none => exact Nat.zero_le _
  | some v =>
    dsimp only
    by_cases q : oK v x < nmL L (H.2 o1).1
    · rw [if_pos q]
      have := (hH o1 a1 a2).2.1 (oK v x)
      omega
    · rw [if_neg q]; exact Nat.zero_le _
/-- isOf -/
theorem x_243 (Ac : ACY T N t.1) (hb : b ≤ 1) (M : MRn T t b wm cm (H, f :: fs, k, st, sc) s) (P : PGn T t b s) (hH : HOK T t.1 H) (hw : bsH T t.1 H H.1 ≤ 4000) (hfl : fs.length < 40) (m384 : nMem t.1 ≤ 384) (K : NWk T t b H f kx kk s) (hv : w = 0 ∨ ∃ o1, w = nI o1 ∧ 1 ≤ o1 ∧ o1 ≤ H.1) : ∃ s', mjF (d + 5) 243 [.ref 97, .int w, .int (nI kx)] (mjW0 s) = some (some (.int (b2 (asO T t.1 H f.1 f.2.1 w kk))), mjW0 s') ∧ oNw s s' := by
  have hmj := mjN_v
  have hn := Ac.1
  have l16 := hn.1
  obtain ⟨F, hC, vk, hk, h8, h2, h9, h5, hnm⟩ := K
  by_cases w0 : w = 0
  · refine ⟨s, ?_, offG.rf⟩
    have ea : asO T t.1 H f.1 f.2.1 w kk = true := by unfold asO; rw [decide_eq_true w0, Bool.true_or]
    rw [ea, e_243]
    unfold f_243 b_243_0
    rw [if_pos w0]
    rfl
  · obtain ⟨o1, e1, p1, p2⟩ := hv.resolve_left w0
    have self : f.2.1 ≤ H.1 := by
      rcases F with ⟨_, h⟩ | ⟨_, _, _, h, _⟩
      · omega
      · exact h
    obtain ⟨s1, a1, a2, a3⟩ := x_235 (d := d) Ac hb M P.1 P.2 hH hw hfl m384 F hC vk hk h8 h2 h5 hnm
    have r1 : ∀ h, ¬ (h = 97 ∨ h = 165 ∨ h = 166 ∨ h = 185) → s1.1 h = s.1 h := fun h hh => funext fun y => a2.1 h y (by omega)
    obtain ⟨h1, h2', h3, h4⟩ := M.2.1 o1 p1 p2
    have cl := (hH o1 p1 p2).1
    have n5c := (vK.n5 hn cl).2
    have n5 := (vK.n5 hn (vk.cl hn)).2
    have ck := vk.cl hn
    have b3 := bs_3 hn H H.1 (fun x x1 x2 => (hH x x1 x2).1)
    have fr := fr_lt T t.1 H p1 p2
    have w169 : s1.1 169 o1 = nI (16 * b + (H.2 o1).1) := by rw [r1 169 (by decide)]; exact h1
    obtain ⟨z, hz⟩ : ∃ z, z = uI s1 97 (upd (s1.1 97) 95 (nI (16 * b + (H.2 o1).1))) := ⟨_, rfl⟩
    have rz : ∀ h, ¬ h = 97 → z.1 h = s1.1 h := fun h e => by rw [hz]; exact uI_ne _ _ _ _ e
    have oz : oUp s1 z := by rw [hz]; exact offG.w (Or.inl ⟨rfl, rfl⟩)
    obtain ⟨s2, c1, c2, c3, c4⟩ := lq_243a (d := d + 2) (b := b) (tg := nI kx) hn hb l16 cl (by omega) (by omega) 5 0 mjN z (by omega) (by omega) (by rw [hz, uI_same, upd_g, if_pos rfl]) (by rw [rz 104 (by decide), r1 104 (by decide)]; exact P.1 _ cl) (by rw [rz 170 (by decide), r1 170 (by decide)]; exact h2') (fun x hx => by rw [rz 168 (by decide), r1 168 (by decide)]; exact h3 x hx) (fun x hx => by omega)
    have oc : cK (own (nmL t.1) (H.2 o1).1) = (H.2 o1).1 := own_ck hn cl
    have U1 : UPw t.1 b s2 (own (nmL t.1) (H.2 o1).1) (owQ t.1 H o1) := by
      refine ⟨by rw [c3, hz, uI_same, upd_g, if_pos rfl, oc], fun i hi => ?_⟩
      rw [oc] at hi
      rw [c4 i hi, show oK (own (nmL t.1) (H.2 o1).1) i = i from mkK_o n5c (fun j hj => by show j < 8; omega) hi]
      unfold owQ
      rw [if_pos hi]
    have A2 : ∀ x, x < t.1.length → ABr T t.1 b s2 x := fun x hx => c2.A (oz.A ((P.2 x hx).cg (r1 105 (by decide)) (r1 138 (by decide)) (r1 139 (by decide)) (r1 142 (by decide))))
    obtain ⟨s3, ww, y, d1, d2, d3, d4, d5, d6, d7⟩ := lq_243b (d := d + 2) (c0 := cK kk) Ac hb cl ck hk (fun x hx => by unfold owQ; rw [if_neg (by omega)]) 16 0 mjN _ s2 rfl (by omega) (by omega) U1 (by rw [c2.1 139 kx (by omega), rz 139 (by decide), r1 139 (by decide)]; exact h9) A2
    have o3 : oUp s1 s3 := oz.tr (c2.tr d2)
    have w138 : s3.1 138 kx = nI (nmL t.1 (cK kk)) := by rw [o3.1 138 kx (by omega), r1 138 (by decide)]; exact h8
    have w139 : s3.1 139 kx = nI (16 * b + cK kk) := by rw [o3.1 139 kx (by omega), r1 139 (by decide)]; exact h9
    have w185 : ∀ x, x < nmL t.1 (cK kk) → s3.1 185 x = nI (hereO T t.1 H f.1 f.2.1 (oK kk x)) := fun x hx => by rw [o3.1 185 x (by omega)]; exact a3 x hx
    have cw := (chn_v hn cl y ww d5).cl hn
    have y16 := up_end Ac cl (chn_c hn cl y ww d5)
    have pre : mjF (d + 5) 243 [.ref 97, .int w, .int (nI kx)] (mjW0 s) = b_243_102 (mjF (d + 4)) 97 (nI kx) (mjW0 s3) := by
      rw [e_243]
      unfold f_243 b_243_0
      rw [if_neg w0, xV_97, a1, bN_s, xg_97_109, e1, wa_169 (by omega), w169, xp_97_95, ← hz, show (0 : Int32) = nI 0 from rfl, c1]
      exact d1
    have nn : nN w = o1 := by rw [e1, nN_nI (by omega)]
    have as0 : asO T t.1 H f.1 f.2.1 w kk = ((vwT (nmL t.1) (abT T t.1) (H.2 o1).1 (cK kk)).isSome && allB (fun i => decide (seenO T t.1 H o1 (cK kk) i = hereO T t.1 H f.1 f.2.1 (oK kk i))) (nmL t.1 (cK kk))) := by
      unfold asO
      rw [decide_eq_false w0, Bool.false_or, nn]
    refine ⟨s3, ?_, offG.tr a2 o3.Nw⟩
    rw [pre]
    unfold b_243_102 b_243_120
    rw [xg_97_95, d3.1, xg_97_50, wa_139 hk, w139]
    by_cases ec : cK ww = cK kk
    · have vw : vwT (nmL t.1) (abT T t.1) (H.2 o1).1 (cK kk) = some ww := by
        have := vw_chn Ac cl d5 y16
        rw [ec] at this
        exact this
      obtain ⟨bb, g1, g2⟩ := lq_243c (s := s3) (g := fun i => decide (seenO T t.1 H o1 (cK kk) i = hereO T t.1 H f.1 f.2.1 (oK kk i))) (mjF (d + 4)) hk n5 (nmL t.1 (cK kk)) 0 mjN true (by omega) (by omega) w138 (fun x hx _ => by
        have e5 : s3.1 165 x = nI (seenO T t.1 H o1 (cK kk) x) := by
          rw [d3.2 x (by rw [ec]; exact hx)]
          unfold seenO owQ
          rw [vw]
        have b1 := seen_lt (a := cK kk) hH p1 p2 x
        have b2' := here_lt (m := f.1) (x := oK kk x) hH self
        rw [e5, w185 x hx, decide_eq_true_iff]
        exact nI_eq (by omega) (by omega))
      have eb : bb = asO T t.1 H f.1 f.2.1 w kk := by
        rw [as0, vw, Bool.eq_iff_iff, g2, Option.isSome_some, Bool.true_and, allB_iff]
        exact ⟨fun h x hx => h.2 x (Nat.zero_le _) hx, fun h => ⟨rfl, fun x _ hx => h x hx⟩⟩
      rw [ec, if_pos rfl, ← eb]
      exact g1
    · have vw : vwT (nmL t.1) (abT T t.1) (H.2 o1).1 (cK kk) = none := by
        cases hvw : vwT (nmL t.1) (abT T t.1) (H.2 o1).1 (cK kk) with
        | none => rfl
        | some w' =>
          obtain ⟨j', j1, j2, j3⟩ := vwk_at hvw
          exfalso
          by_cases l1 : j' < y
          · exact d7 j' (Nat.zero_le _) l1 w' j2 j3
          · by_cases l2 : j' = y
            · rw [l2, d5] at j2
              exact ec (by rw [Option.some.inj j2]; exact j3)
            · have z0 : chn (nmL t.1) (abT T t.1) (H.2 o1).1 (y + 1) = none := by
                show (match chn (nmL t.1) (abT T t.1) (H.2 o1).1 y with
                  | none => none
                  | some v => match abT T t.1 (cK v) with
                    | none => none
                    | some u => some (stand (nmL t.1) u v)) = none
                rw [d5]
                dsimp only
                rw [d6.resolve_left ec]
              have := chn_none (nmL t.1) (abT T t.1) z0 (j' - y - 1)
              rw [show y + 1 + (j' - y - 1) = j' by omega, j2] at this
              cases this
      obtain ⟨bb, g1, g2⟩ := lq_243c (s := s3) (g := fun _ => true) (mjF (d + 4)) hk n5 (nmL t.1 (cK kk)) 0 mjN false (by omega) (by omega) w138 (fun x hx h => by cases h)
      have eb : bb = asO T t.1 H f.1 f.2.1 w kk := by
        rw [as0, vw, Bool.eq_iff_iff, g2, Option.isSome_none, Bool.false_and]
        exact ⟨fun h => h.1, fun h => absurd h (by decide)⟩
      rw [if_neg (fun e => ec (by
        have := (nI_eq (by omega) (by omega)).mp e
        omega)), ← eb]
      exact g1
end MJB43
end
section
/-! ===== the reference's act: as; an OBJECT is made ===== -/
section MJB44
variable {T : TT} {d N b k n m v u a o1 kx kk wm cm i i0 c : Nat} {L : List CD} {t : PT} {E : EV} {r : Row} {j : JS} {H : HEAP} {f : FRM} {fs : List FRM} {st : List Int32} {sc : SCL} {s s' : mjSt3} {w : Int32} {A : AMS} {ow : Nat → Nat}
theorem MRn.now (M : MRn T t b wm cm A s) (o : oNw s s') : MRn T t b wm cm A s' := by
  have n : ∀ y, ¬ y = 95 → s'.1 97 y = s.1 97 y := fun y hy => o.1 97 y (by omega)
  have rr : ∀ h, 167 ≤ h ∧ h ≤ 176 → s'.1 h = s.1 h := fun h hh => funext fun y => o.1 h y (by omega)
  obtain ⟨⟨⟨a1, a2, a3, a4⟩, ⟨a5, a6, a7⟩, ⟨a8, a9, a10⟩, ⟨a11, a12⟩, a13⟩, hH, hF, hT⟩ := M
  refine ⟨⟨⟨by rw [n 96 (by decide)]; exact a1, by rw [n 97 (by decide)]; exact a2, by rw [n 98 (by decide)]; exact a3, by rw [n 99 (by decide)]; exact a4⟩, ⟨by rw [n 100 (by decide)]; exact a5, by rw [n 105 (by decide)]; exact a6, by rw [n 106 (by decide)]; exact a7⟩, ⟨by rw [n 102 (by decide)]; exact a8, by rw [n 103 (by decide)]; exact a9, by rw [n 116 (by decide)]; exact a10⟩, ⟨by rw [n 101 (by decide)]; exact a11, by rw [n 104 (by decide)]; exact a12⟩, fun y h1 h2 => by rw [rr 167 (by omega)]; exact a13 y h1 h2⟩, hH.keep (fun y hy => rr y (by omega)), FRr.keep (fun y hy => rr y (by omega)) _ hF, fun g gs hg => ?_⟩
  obtain ⟨c1, c2, c3⟩ := hT g gs hg
  exact ⟨by rw [n 119 (by decide)]; exact c1, by rw [n 118 (by decide)]; exact c2, STr.low _ (fun y _ => by rw [rr 176 (by omega)]) c3⟩
theorem ac_14 (Ac : ACY T N t.1) (M : MRn T t b wm cm (H, f :: fs, k, w :: st, sc) s) (W : RwJ E b i r j s) (o : r.1 = 14) (hl : st.length < 8000) (P : PGn T t b s) (hH : HOK T t.1 H) (hw : bsH T t.1 H H.1 ≤ 4000) (hfl : fs.length < 40) (m384 : nMem t.1 ≤ 384) (hkd : kdE E r.2.2.1 = some kk) (hx : r.2.2.1 = nI kx) (K : NWk T t b H f kx kk s) (hv : w = 0 ∨ ∃ o1, w = nI o1 ∧ 1 ≤ o1 ∧ o1 ≤ H.1) : gAct T t b wm cm (aStep T t.1 E j i0 wm cm r (H, f :: fs, k, w :: st, sc)) s (mjF (d + 6) 231 [.ref 97, .int (nI (5000 * b + i))] (mjW0 s)) := by
  have hi := W.2.1
  have hb := W.2.2
  obtain ⟨_, h8, hS⟩ := M.2.2.2 f fs rfl
  have h8' : s.1 97 118 = nI (st.length + 1) := h8
  have hS' : s.1 176 st.length = w := hS.1
  have e145 : s.1 145 (5000 * b + i) = nI kx := by
    rw [W.1.2.2.1, ← hx]
    exact nA_9 (by rw [o]; decide)
  obtain ⟨s1, a1, a2⟩ := x_243 (d := d) Ac hb M P hH hw hfl m384 K hv
  have M1 := M.now a2
  have pre : mjF (d + 6) 231 [.ref 97, .int (nI (5000 * b + i))] (mjW0 s) = (if b2 (asO T t.1 H f.1 f.2.1 w kk) = 0 then gR (mjW0 s1) 97 12 55 (fun v63 => aI (mjW0 s1) v63 (nI (5000 * b + i)) (fun v64 => rV (mjW0 s1) 97 12 (bN (mjF (d + 5) 234 [.ref 97, .int (3 : Int32), .int v64] (mjW0 s1)) (fun hp65 => some (none, hp65))))) else some (none, mjW0 s1)) := by
    rw [e_231]
    unfold f_231 b_231_0
    rw [xg_97_116, M.c16, xg_97_54, wa_143 (by omega), W.1.1, o, if_neg (by decide), if_neg (by decide), if_neg (by decide), if_neg (by decide), if_neg (by decide), if_neg (by decide), if_neg (by decide), if_neg (by decide), if_neg (by decide), if_neg (by decide), if_neg (by decide), if_neg (by decide), if_neg (by decide), if_pos rfl, xg_97_117, xg_97_118, h8', nI_pred, wa_176 hl, hS', xg_97_56, wa_145 (by omega), e145, xV_97, a1, bI_s]
  rw [as_14 o, hkd, pre]
  show gAct T t b wm cm (if asO T t.1 H f.1 f.2.1 w kk = true then (H, f :: fs, k, w :: st, sc) else aFail (H, f :: fs, k, w :: st, sc) 3 r.2.1) s _
  cases ha : asO T t.1 H f.1 f.2.1 w kk with
  | true =>
    rw [if_pos rfl, if_neg (show ¬ b2 true = 0 by decide)]
    exact ⟨s1, rfl, a2.Rn, M1⟩
  | false =>
    rw [if_neg (by decide), if_pos (show b2 false = 0 from rfl), xg_97_55, wa_144 (by omega), a2.1 144 _ (by omega), W.1.2.1]
    obtain ⟨s3, p1, p2, p3⟩ := x_234 (d := d + 4) M1 3 r.2.1
    exact ⟨s3, by rw [xV_97, p1, bN_s], offG.tr a2.Rn p2, p3⟩
theorem fr_add (h : o1 ≤ H.1 + 1) (h1 : 1 ≤ o1) : frO T L (addO H c ow) o1 = frO T L H o1 := by
  unfold frO
  rw [bs_same (H := H) (fun o p1 p2 => HX.add.2 o p1 p2) (o1 - 1) (by omega)]
theorem HPr.add (h : HPr T L b H s) (e9 : ∀ x, s'.1 169 x = if x = H.1 + 1 then nI (16 * b + c) else s.1 169 x) (e0 : ∀ x, s'.1 170 x = if x = H.1 + 1 then nI (frO T L H (H.1 + 1)) else s.1 170 x) (e8a : ∀ x, x < nmL L c → s'.1 168 (frO T L H (H.1 + 1) + x) = nI (ow x)) (e8b : ∀ x, x < fldT T L c → s'.1 168 (frO T L H (H.1 + 1) + nmL L c + x) = 0) (e8c : ∀ x, x < frO T L H (H.1 + 1) → s'.1 168 x = s.1 168 x) : HPr T L b (addO H c ow) s' := by
  intro o p1 p2
  have p2' : o ≤ H.1 + 1 := p2
  have ex : (addO H c ow).2 o = if o = H.1 + 1 then (c, ow, fun _ => 0) else H.2 o := rfl
  rw [fr_add p2' p1, ex]
  by_cases e : o = H.1 + 1
  · rw [if_pos e, e, e9, e0, if_pos rfl, if_pos rfl]
    exact ⟨rfl, rfl, e8a, e8b⟩
  · rw [if_neg e, e9, e0, if_neg e, if_neg e]
    obtain ⟨h1, h2, h3, h4⟩ := h o p1 (by omega)
    have sep := fr_sep T L H p1 (show o < H.1 + 1 by omega)
    exact ⟨h1, h2, fun x hx => by rw [e8c _ (by omega)]; exact h3 x hx, fun x hx => by rw [e8c _ (by omega)]; exact h4 x hx⟩
end MJB44
end
section
/-! ===== the reference's act: an OBJECT is made ===== -/
def oH8 (lo hi : Nat) : mjSt3 → mjSt3 → Prop := offG (fun h j => h = 168 ∧ lo ≤ j ∧ j < hi) (fun _ _ => False)
section MJB45
variable {T : TT} {d N b k n m kx kk wm cm i i0 c F0 o1 : Nat} {L : List CD} {t : PT} {E : EV} {r : Row} {j : JS} {H : HEAP} {f : FRM} {fs : List FRM} {st : List Int32} {sc : SCL} {s s' : mjSt3} {w : Int32} {ow : Nat → Nat}
theorem L233_99 (R : mjR) (n a : Nat) (x y z w : Int32) (hp : mjH) : L_233_99 R (n + 1) a x y z w hp = b_233_99 R (L_233_99 R n) a x y z w hp := rfl
theorem L233_141 (R : mjR) (n a : Nat) (x y z w : Int32) (hp : mjH) : L_233_141 R (n + 1) a x y z w hp = b_233_141 R (L_233_141 R n) a x y z w hp := rfl
theorem lq_233a (R : mjR) (hb : b ≤ 1) (hc : c < 16) (nm5 : nmL L c ≤ 5) (hF : F0 + nmL L c ≤ 4000) (ho : o1 < 1400) {l4 : Int32} : ∀ (r i m : Nat) (s : mjSt3), i + r = nmL L c → r < m → s.1 104 (16 * b + c) = nI (nmL L c) → s.1 170 o1 = nI F0 → (∀ x, x < nmL L c → s.1 185 x = nI (ow x)) → (∀ x, x < i → s.1 168 (F0 + x) = nI (ow x)) → ∃ s', L_233_99 R m 97 (nI (16 * b + c)) l4 (nI o1) (nI i) (mjW0 s) = L_233_141 R mjN 97 (nI (16 * b + c)) l4 (nI o1) (nI 0) (mjW0 s') ∧ oH8 F0 (F0 + nmL L c) s s' ∧ ∀ x, x < nmL L c → s'.1 168 (F0 + x) = nI (ow x)
  | r, i, 0, s, e, hr, h4, h0, h5, w => by omega
  | 0, i, m + 1, s, e, hr, h4, h0, h5, w => by
    refine ⟨s, ?_, offG.rf, fun x hx => w x (by omega)⟩
    rw [L233_99]
    unfold b_233_99
    rw [xg_97_15, wa_104 (by omega), h4, if_pos (nI_le (by omega) (by omega))]
    rfl
  | r + 1, i, m + 1, s, e, hr, h4, h0, h5, w => by
    obtain ⟨z, hz⟩ : ∃ z, z = uI s 168 (upd (s.1 168) (F0 + i) (nI (ow i))) := ⟨_, rfl⟩
    have r1 : ∀ h, ¬ h = 168 → z.1 h = s.1 h := fun h e => by rw [hz]; exact uI_ne _ _ _ _ e
    obtain ⟨s', b1, b2', b3⟩ := lq_233a R hb hc nm5 hF ho (l4 := l4) r (i + 1) m z (by omega) (by omega) (by rw [r1 104 (by decide)]; exact h4) (by rw [r1 170 (by decide)]; exact h0) (fun x hx => by rw [r1 185 (by decide)]; exact h5 x hx) (fun x hx => by
      rw [hz, uI_same, upd_g]
      by_cases e' : x = i
      · rw [if_pos (by omega), e']
      · rw [if_neg (by omega)]; exact w x (by omega))
    refine ⟨s', ?_, offG.tr (show oH8 F0 (F0 + nmL L c) s z by rw [hz]; exact offG.w ⟨rfl, by omega, by omega⟩) b2', b3⟩
    rw [← b1, L233_99]
    unfold b_233_99
    rw [xg_97_15, wa_104 (by omega), h4, if_neg (nI_ge (show i < nmL L c by omega) (by omega)), xg_97_108, xg_97_110, wa_170 ho, h0, xg_97_134, wa_185 (by omega), h5 i (by omega), nI_add, ws_168 (by omega), ← hz, nI_1]
theorem lq_233b (R : mjR) (hb : b ≤ 1) (hc : c < 16) (nm5 : nmL L c ≤ 5) (hF : F0 + nmL L c + fldT T L c ≤ 4000) (ho : o1 < 1400) {l4 : Int32} : ∀ (r i m : Nat) (s : mjSt3), i + r = fldT T L c → r < m → s.1 104 (16 * b + c) = nI (nmL L c) → s.1 109 (16 * b + c) = nI (fldT T L c) → s.1 170 o1 = nI F0 → (∀ x, x < i → s.1 168 (F0 + nmL L c + x) = 0) → ∃ s', L_233_141 R m 97 (nI (16 * b + c)) l4 (nI o1) (nI i) (mjW0 s) = gI (mjW0 s') 97 12 102 (fun v3 => pI (mjW0 s') 97 12 102 (v3 + l4) (fun hp4 => pI hp4 97 12 103 (nI o1) (fun hp5 => rV hp5 97 12 (bN (R 232 [.ref 97, .int (nI o1)] hp5) (fun hp6 => some (none, hp6)))))) ∧ oH8 (F0 + nmL L c) (F0 + nmL L c + fldT T L c) s s' ∧ ∀ x, x < fldT T L c → s'.1 168 (F0 + nmL L c + x) = 0
  | r, i, 0, s, e, hr, h4, h9, h0, w => by omega
  | 0, i, m + 1, s, e, hr, h4, h9, h0, w => by
    refine ⟨s, ?_, offG.rf, fun x hx => w x (by omega)⟩
    rw [L233_141]
    unfold b_233_141
    rw [xg_97_20, wa_109 (by omega), h9, if_pos (nI_le (by omega) (by omega))]
  | r + 1, i, m + 1, s, e, hr, h4, h9, h0, w => by
    obtain ⟨z, hz⟩ : ∃ z, z = uI s 168 (upd (s.1 168) (F0 + nmL L c + i) 0) := ⟨_, rfl⟩
    have r1 : ∀ h, ¬ h = 168 → z.1 h = s.1 h := fun h e => by rw [hz]; exact uI_ne _ _ _ _ e
    obtain ⟨s', b1, b2', b3⟩ := lq_233b R hb hc nm5 hF ho (l4 := l4) r (i + 1) m z (by omega) (by omega) (by rw [r1 104 (by decide)]; exact h4) (by rw [r1 109 (by decide)]; exact h9) (by rw [r1 170 (by decide)]; exact h0) (fun x hx => by
      rw [hz, uI_same, upd_g]
      by_cases e' : x = i
      · rw [if_pos (by omega)]
      · rw [if_neg (by omega)]; exact w x (by omega))
    refine ⟨s', ?_, offG.tr (show oH8 (F0 + nmL L c) (F0 + nmL L c + fldT T L c) s z by rw [hz]; exact offG.w ⟨rfl, by omega, by omega⟩) b2', b3⟩
    rw [← b1, L233_141]
    unfold b_233_141
    rw [xg_97_20, wa_109 (by omega), h9, if_neg (nI_ge (show i < fldT T L c by omega) (by omega)), xg_97_108, xg_97_110, wa_170 ho, h0, xg_97_15, wa_104 (by omega), h4, nI_add, nI_add, ws_168 (by omega), ← hz, nI_1]
theorem oH8.Rn {lo hi : Nat} (o : oH8 lo hi s s') : oRn s s' := offG.mono o (fun h j x => by unfold chRn; omega) (fun _ _ x => x)
theorem ac_7 (Ac : ACY T N t.1) (M : MRn T t b wm cm (H, f :: fs, k, st, sc) s) (W : RwJ E b i r j s) (o : r.1 = 7) (hl : st.length < 8000) (P : PGn T t b s) (hfd : ∀ c, c < t.1.length → s.1 109 (16 * b + c) = nI (fldT T t.1 c)) (hH : HOK T t.1 H) (hw : bsH T t.1 H H.1 ≤ wm) (wm4 : wm ≤ 4000) (hfl : fs.length < 40) (m384 : nMem t.1 ≤ 384) (h384 : ∀ c, fldT T t.1 c ≤ 384) (hkd : kdE E r.2.2.1 = some kk) (hx : r.2.2.1 = nI kx) (K : NWk T t b H f kx kk s) : gAct T t b wm cm (aStep T t.1 E j i0 wm cm r (H, f :: fs, k, st, sc)) s (mjF (d + 6) 231 [.ref 97, .int (nI (5000 * b + i))] (mjW0 s)) := by
  have hmj := mjN_v
  have hn := Ac.1
  have l16 := hn.1
  have hi := W.2.1
  have hb := W.2.2
  obtain ⟨F, hC, vk, hk, h8, h2, h9, h5, hnm⟩ := K
  have ck := vk.cl hn
  have n5 := (vK.n5 hn ck)
  have e145 : s.1 145 (5000 * b + i) = nI kx := by
    rw [W.1.2.2.1, ← hx]
    exact nA_9 (by rw [o]; decide)
  have g2 := bs_ge T t.1 H H.1
  have b3 := bs_3 hn H H.1 (fun x x1 x2 => (hH x x1 x2).1)
  have s102 : s.1 97 102 = nI (bsH T t.1 H H.1) := M.1.2.2.1.1
  have s103 : s.1 97 103 = nI H.1 := M.1.2.2.1.2.1
  have s101 : s.1 97 101 = nI wm := M.1.2.2.2.1.1
  have fle : fldT T t.1 (cK kk) ≤ 384 := h384 _
  have sz : szO T t.1 (cK kk) = 2 + nmL t.1 (cK kk) + fldT T t.1 (cK kk) := rfl
  have need : (2 : Int32) + nI (nmL t.1 (cK kk)) + nI (fldT T t.1 (cK kk)) = nI (szO T t.1 (cK kk)) := by rw [show (2 : Int32) = nI 2 from rfl, nI_add, nI_add, sz]
  have pre : mjF (d + 6) 231 [.ref 97, .int (nI (5000 * b + i))] (mjW0 s) = bN (mjF (d + 5) 233 [.ref 97, .int (nI (5000 * b + i))] (mjW0 s)) (fun hp27 => some (none, hp27)) := by
    rw [e_231]
    unfold f_231 b_231_0
    rw [xg_97_116, M.c16, xg_97_54, wa_143 (by omega), W.1.1, o, if_neg (by decide), if_neg (by decide), if_neg (by decide), if_neg (by decide), if_neg (by decide), if_neg (by decide), if_pos rfl, xV_97]
  have pre2 : mjF (d + 5) 233 [.ref 97, .int (nI (5000 * b + i))] (mjW0 s) = (if nI (bsH T t.1 H H.1 + szO T t.1 (cK kk)) ≤ nI wm then rV (mjW0 s) 97 12 (bN (mjF (d + 4) 235 [.ref 97, .int (nI kx)] (mjW0 s)) (fun hp11 => gI hp11 97 12 103 (fun v12 => gR hp11 97 12 109 (fun v13 => sI hp11 v13 (v12 + (1 : Int32)) (nI (16 * b + cK kk)) (fun hp14 => gR hp14 97 12 110 (fun v15 => gI hp14 97 12 102 (fun v16 => gI hp14 97 12 103 (fun v17 => sI hp14 v15 (v12 + (1 : Int32)) (v16 - ((2 : Int32) * v17)) (fun hp18 => L_233_99 (mjF (d + 4)) mjN 97 (nI (16 * b + cK kk)) (nI (szO T t.1 (cK kk))) (v12 + (1 : Int32)) (0 : Int32) hp18))))))))) else gR (mjW0 s) 97 12 55 (fun v19 => aI (mjW0 s) v19 (nI (5000 * b + i)) (fun v20 => rV (mjW0 s) 97 12 (bN (mjF (d + 4) 234 [.ref 97, .int (4 : Int32), .int v20] (mjW0 s)) (fun hp21 => some (none, hp21)))))) := by
    rw [e_233]
    unfold f_233 b_233_0
    rw [xg_97_56, wa_145 (by omega), e145, xg_97_50, wa_139 hk, h9, xg_97_15, wa_104 (by omega), P.1 _ ck, xg_97_20, wa_109 (by omega), hfd _ ck, xg_97_102, s102, xg_97_101, s101, need, nI_add]
  rw [pre, pre2, as_7 o, hkd]
  show gAct T t b wm cm (if wm < bsH T t.1 H H.1 + szO T t.1 (cK kk) then aFail (H, f :: fs, k, st, sc) 4 r.2.1 else (addO H (cK kk) (fun x => hereO T t.1 H f.1 f.2.1 (oK kk x)), f :: fs, k, nI (H.1 + 1) :: st, sc)) s _
  by_cases g : wm < bsH T t.1 H H.1 + szO T t.1 (cK kk)
  · rw [if_pos g, if_neg (nI_ge g (by omega)), xg_97_55, wa_144 (by omega), W.1.2.1]
    obtain ⟨s3, p1, p2, p3⟩ := x_234 (d := d + 3) M 4 r.2.1
    exact ⟨s3, by rw [xV_97, p1, bN_s, bN_s], p2, p3⟩
  · rw [if_neg g, if_pos (nI_le (by omega) (by omega))]
    obtain ⟨s1, a1, a2, a3⟩ := x_235 (d := d) Ac hb M P.1 P.2 hH (by omega) hfl m384 F hC vk hk h8 h2 h5 hnm
    have M1 := M.now a2
    have r1 : ∀ h, ¬ (h = 97 ∨ h = 165 ∨ h = 166 ∨ h = 185) → s1.1 h = s.1 h := fun h hh => funext fun y => a2.1 h y (by omega)
    have f103 : s1.1 97 103 = nI H.1 := M1.1.2.2.1.2.1
    have f102 : s1.1 97 102 = nI (bsH T t.1 H H.1) := M1.1.2.2.1.1
    have F0e : frO T t.1 H (H.1 + 1) = bsH T t.1 H H.1 - 2 * H.1 := rfl
    obtain ⟨z1, g1⟩ : ∃ y, y = uI s1 169 (upd (s1.1 169) (H.1 + 1) (nI (16 * b + cK kk))) := ⟨_, rfl⟩
    obtain ⟨z2, g2'⟩ : ∃ y, y = uI z1 170 (upd (z1.1 170) (H.1 + 1) (nI (frO T t.1 H (H.1 + 1)))) := ⟨_, rfl⟩
    have q1 : ∀ h, ¬ h = 169 → z1.1 h = s1.1 h := fun h e => by rw [g1]; exact uI_ne _ _ _ _ e
    have q2 : ∀ h, ¬ h = 170 → z2.1 h = z1.1 h := fun h e => by rw [g2']; exact uI_ne _ _ _ _ e
    have qq : ∀ h, ¬ h = 169 → ¬ h = 170 → z2.1 h = s1.1 h := fun h e1 e2 => by rw [q2 h e2, q1 h e1]
    have v0 : ∀ x, z2.1 170 x = if x = H.1 + 1 then nI (frO T t.1 H (H.1 + 1)) else s1.1 170 x := fun x => by rw [g2', uI_same, upd_g, q1 170 (by decide)]
    have v9 : ∀ x, z2.1 169 x = if x = H.1 + 1 then nI (16 * b + cK kk) else s1.1 169 x := fun x => by rw [q2 169 (by decide), g1, uI_same, upd_g]
    have sub : nI (bsH T t.1 H H.1) - (2 : Int32) * nI H.1 = nI (frO T t.1 H (H.1 + 1)) := by
      rw [show (2 : Int32) = nI 2 from rfl, nI_mul, F0e]
      have e : bsH T t.1 H H.1 = (bsH T t.1 H H.1 - 2 * H.1) + 2 * H.1 := by omega
      rw [e, ← nI_add, Int32.add_sub_cancel, show bsH T t.1 H H.1 - 2 * H.1 + 2 * H.1 - 2 * H.1 = bsH T t.1 H H.1 - 2 * H.1 by omega]
    obtain ⟨s2, c1, c2, c3⟩ := lq_233a (L := t.1) (b := b) (c := cK kk) (F0 := frO T t.1 H (H.1 + 1)) (o1 := H.1 + 1) (l4 := nI (szO T t.1 (cK kk))) (ow := fun x => hereO T t.1 H f.1 f.2.1 (oK kk x)) (mjF (d + 4)) hb (by omega) n5.2 (by omega) (by omega) (nmL t.1 (cK kk)) 0 mjN z2 (by omega) (by omega) (by rw [qq 104 (by decide) (by decide), r1 104 (by decide)]; exact P.1 _ ck) (by rw [v0, if_pos rfl]) (fun x hx => by rw [qq 185 (by decide) (by decide)]; exact a3 x hx) (fun x hx => by omega)
    obtain ⟨s3, d1, d2, d3⟩ := lq_233b (T := T) (L := t.1) (b := b) (c := cK kk) (F0 := frO T t.1 H (H.1 + 1)) (o1 := H.1 + 1) (l4 := nI (szO T t.1 (cK kk))) (mjF (d + 4)) hb (by omega) n5.2 (by omega) (by omega) (fldT T t.1 (cK kk)) 0 mjN s2 (by omega) (by omega) (by rw [c2.1 104 _ (by omega), qq 104 (by decide) (by decide), r1 104 (by decide)]; exact P.1 _ ck) (by rw [c2.1 109 _ (by omega), qq 109 (by decide) (by decide), r1 109 (by decide)]; exact hfd _ ck) (by rw [c2.1 170 _ (by omega), v0, if_pos rfl]) (fun x hx => by omega)
    have o13 : ∀ h, ¬ h = 168 → s3.1 h = z2.1 h := fun h e => funext fun y => (d2.1 h y (by omega)).trans (c2.1 h y (by omega))
    have e97 : s3.1 97 = s1.1 97 := by rw [o13 97 (by decide), qq 97 (by decide) (by decide)]
    obtain ⟨z4, g4⟩ : ∃ y, y = uI s3 97 (upd (s3.1 97) 102 (nI (bsH T t.1 H H.1 + szO T t.1 (cK kk)))) := ⟨_, rfl⟩
    obtain ⟨z5, g5⟩ : ∃ y, y = uI z4 97 (upd (z4.1 97) 103 (nI (H.1 + 1))) := ⟨_, rfl⟩
    have w97 : ∀ x, z5.1 97 x = if x = 103 then nI (H.1 + 1) else if x = 102 then nI (bsH T t.1 H H.1 + szO T t.1 (cK kk)) else s1.1 97 x := fun x => by rw [g5, uI_same, upd_g, g4, uI_same, upd_g, e97]
    have rr5 : ∀ h, ¬ h = 97 → z5.1 h = s3.1 h := fun h e => by rw [g5, uI_ne _ _ _ _ e, g4, uI_ne _ _ _ _ e]
    have nn : ∀ x, ¬ (x = 102 ∨ x = 103) → z5.1 97 x = s1.1 97 x := fun x hx => by rw [w97, if_neg (by omega), if_neg (by omega)]
    have rk : ∀ h, ¬ (h = 97 ∨ (168 ≤ h ∧ h ≤ 170)) → z5.1 h = s1.1 h := fun h hh => by rw [rr5 h (by omega), o13 h (by omega), qq h (by omega) (by omega)]
    have M5 : MRn T t b wm cm (addO H (cK kk) (fun x => hereO T t.1 H f.1 f.2.1 (oK kk x)), f :: fs, k, st, sc) z5 := by
      obtain ⟨⟨⟨b1, b2', b3', b4⟩, ⟨b5, b6, b7⟩, ⟨b8, b9, b10⟩, ⟨b11, b12⟩, b13⟩, hHp, hF, hT⟩ := M1
      obtain ⟨t1, t2, t3⟩ := hT f fs rfl
      have hHp' : HPr T t.1 b H s1 := hHp
      have bsn : bsH T t.1 (addO H (cK kk) (fun x => hereO T t.1 H f.1 f.2.1 (oK kk x))) (H.1 + 1) = bsH T t.1 H H.1 + szO T t.1 (cK kk) := by
        show bsH T t.1 (addO H (cK kk) (fun x => hereO T t.1 H f.1 f.2.1 (oK kk x))) H.1 + szO T t.1 (if H.1 + 1 = H.1 + 1 then (cK kk, (fun x => hereO T t.1 H f.1 f.2.1 (oK kk x)), fun _ => 0) else H.2 (H.1 + 1)).1 = _
        rw [if_pos rfl, bs_same (H := H) (fun o p1 p2 => HX.add.2 o p1 p2) H.1 (Nat.le_refl _)]
      refine ⟨⟨⟨by rw [nn 96 (by omega)]; exact b1, by rw [nn 97 (by omega)]; exact b2', by rw [nn 98 (by omega)]; exact b3', by rw [nn 99 (by omega)]; exact b4⟩, ⟨by rw [nn 100 (by omega)]; exact b5, by rw [nn 105 (by omega)]; exact b6, by rw [nn 106 (by omega)]; exact b7⟩, ⟨?_, by rw [w97, if_pos rfl]; rfl, by rw [nn 116 (by omega)]; exact b10⟩, ⟨by rw [nn 101 (by omega)]; exact b11, by rw [nn 104 (by omega)]; exact b12⟩, fun x h1 h2 => by rw [rk 167 (by omega)]; exact b13 x h1 h2⟩, ?_, FRr.keep (fun x hx => rk x (by omega)) _ hF, fun g gs hg => ?_⟩
      · show z5.1 97 102 = nI (bsH T t.1 (addO H (cK kk) (fun x => hereO T t.1 H f.1 f.2.1 (oK kk x))) (H.1 + 1))
        rw [w97, if_neg (by decide), if_pos rfl, bsn]
      · refine hHp'.add (fun x => by rw [rr5 169 (by decide), o13 169 (by decide), v9]) (fun x => by rw [rr5 170 (by decide), o13 170 (by decide), v0]) (fun x hx => ?_) (fun x hx => by rw [rr5 168 (by decide)]; exact d3 x hx) (fun x hx => ?_)
        · rw [rr5 168 (by decide), d2.1 168 _ (by omega)]; exact c3 x hx
        · rw [rr5 168 (by decide), d2.1 168 _ (by omega), c2.1 168 _ (by omega), qq 168 (by decide) (by decide)]
      · have hg' : f = g := (List.cons.inj hg).1
        rw [← hg']
        exact ⟨by rw [nn 119 (by omega)]; exact t1, by rw [nn 118 (by omega)]; exact t2, STr.low st (fun x _ => by rw [rk 176 (by omega)]) t3⟩
    obtain ⟨s6, p1, p2, p3⟩ := x_232 (d := d + 3) M5 hl (nI (H.1 + 1))
    have oz : oRn s z5 := by
      refine offG.tr a2.Rn (offG.tr (b := z1) (by rw [g1]; exact oRn.wr (by unfold chRn; omega)) (offG.tr (b := z2) (by rw [g2']; exact oRn.wr (by unfold chRn; omega)) (offG.tr c2.Rn (offG.tr d2.Rn (offG.tr (b := z4) (by rw [g4]; exact oRn.wr (by unfold chRn; omega)) (by rw [g5]; exact oRn.wr (by unfold chRn; omega)))))))
    refine ⟨s6, ?_, offG.tr oz p2, p3⟩
    rw [xV_97, a1, bN_s, xg_97_103, f103, xg_97_109, nI_1, ws_169 (by omega), ← g1, xg_97_110, xg_97_102, q1 97 (by decide), f102, xg_97_103, q1 97 (by decide), f103, sub, ws_170 (by omega), ← g2', show (0 : Int32) = nI 0 from rfl, c1, d1, xg_97_102, e97, f102, xp_97_102, nI_add, ← g4, xp_97_103, ← g5, xV_97, p1, bN_s, bN_s]
end MJB45
end
section
/-! ===== the reference's RUN: which METHOD is done ===== -/
section MJB46
variable {T : TT} {d N b n m a c : Nat} {ks : List Nat} {L : List CD} {s : mjSt3} {key : Int64}
theorem L241_6 (R : mjR) (n a : Nat) (x : Int64) (y z : Int32) (hp : mjH) : L_241_6 R (n + 1) a x y z hp = b_241_6 R (L_241_6 R n) a x y z hp := rfl
theorem L241_40 (R : mjR) (k6 : Nat → Int64 → Int32 → Int32 → mjH → mjU) (n a : Nat) (x : Int64) (y z u v : Int32) (hp : mjH) : L_241_40 R k6 (n + 1) a x y z u v hp = b_241_40 R k6 (L_241_40 R k6 n) a x y z u v hp := rfl
/-- what methodOf reads -/
def MTr (T : TT) (L : List CD) (b : Nat) (s : mjSt3) : Prop := s.1 97 9 = nI b ∧ (∀ a, a < L.length → s.1 107 (16 * b + a) = nI (fmL L a) ∧ s.1 108 (16 * b + a) = nI (mcL L a) ∧ fmL L a + mcL L a ≤ nMem L ∧ ABr T L b s a) ∧ nMem L ≤ 384 ∧ ∀ m, m < nMem L → s.2.1 132 (400 * b + m) = nkM T L m ∧ s.1 125 (400 * b + m) = b2 (mSM L m) ∧ omT T L (hmM L m) (nkM T L m) = some m
theorem gMs_at (Mt : MTr T L b s) (ha : a < L.length) {i : Nat} (hi : i < mcL L a) : (nkM T L (fmL L a + i) = key ∧ mSM L (fmL L a + i) = true) ↔ gMs T L key true a = some (fmL L a + i) := by
  have b1 := (Mt.2.1 a ha).2.2.1
  have hm : fmL L a + i < nMem L := by omega
  have e := hm_at (L := L) ha hi
  constructor
  · intro ⟨h1, h2⟩
    have u := (Mt.2.2.2 _ hm).2.2
    rw [e, h1] at u
    unfold gMs
    rw [u]
    exact if_pos h2
  · intro h
    obtain ⟨_, _, g3, g4, _⟩ := gMs_in ha h
    exact ⟨g3, g4⟩
theorem lq_241m (R : mjR) (hb : b ≤ 1) (h16 : L.length ≤ 16) (Mt : MTr T L b s) (ha : a < L.length) (k6 : Nat → Int64 → Int32 → Int32 → mjH → mjU) : ∀ (r i n : Nat), i + r = mcL L a → r + 1 < n → (∀ x, x < i → ¬ gMs T L key true a = some (fmL L a + x)) → L_241_40 R k6 n 97 key (-1) (nI (16 * b + a)) (nI (400 * b + fmL L a)) (nI (400 * b + fmL L a + i)) (mjW0 s) = b_241_94 R k6 97 key (mR b (gMs T L key true a)) (nI (16 * b + a)) (mjW0 s)
  | r, i, 0, e, hr, w => by omega
  | 0, i, n + 1, e, hr, w => by
    obtain ⟨m1, m2, m3, _⟩ := Mt.2.1 a ha
    have m384 := Mt.2.2.1
    have g0 : gMs T L key true a = none := by
      cases hg : gMs T L key true a with
      | none => rfl
      | some x =>
        obtain ⟨_, _, _, _, g5⟩ := gMs_in ha hg
        obtain ⟨x1, x2, _⟩ := om_lt g5
        exfalso
        refine w (x - fmL L a) (by omega) ?_
        rw [hg, show fmL L a + (x - fmL L a) = x by omega]
    rw [L241_40]
    unfold b_241_40
    rw [xg_97_19, wa_108 (by omega), m2, nI_add, if_pos (nI_le (by omega) (by omega)), g0]
    rfl
  | r + 1, i, n + 1, e, hr, w => by
    obtain ⟨m1, m2, m3, _⟩ := Mt.2.1 a ha
    have m384 := Mt.2.2.1
    have hi : i < mcL L a := by omega
    have hm : fmL L a + i < nMem L := by omega
    obtain ⟨n1, n2, _⟩ := Mt.2.2.2 _ hm
    have em : 400 * b + fmL L a + i = 400 * b + (fmL L a + i) := by omega
    have base : L_241_40 R k6 (n + 1) 97 key (-1) (nI (16 * b + a)) (nI (400 * b + fmL L a)) (nI (400 * b + fmL L a + i)) (mjW0 s) = (if (lg_cmp (nkM T L (fmL L a + i)) key) = 0 then (if b2 (mSM L (fmL L a + i)) = (1 : Int32) then L_241_40 R k6 n 97 key (nI (400 * b + fmL L a + i)) (nI (16 * b + a)) (nI (400 * b + fmL L a)) (nI (400 * b + fmL L a + (i + 1))) (mjW0 s) else L_241_40 R k6 n 97 key (-1) (nI (16 * b + a)) (nI (400 * b + fmL L a)) (nI (400 * b + fmL L a + (i + 1))) (mjW0 s)) else L_241_40 R k6 n 97 key (-1) (nI (16 * b + a)) (nI (400 * b + fmL L a)) (nI (400 * b + fmL L a + (i + 1))) (mjW0 s)) := by
      rw [L241_40]
      unfold b_241_40 b_241_88
      rw [xg_97_19, wa_108 (by omega), m2, nI_add, if_neg (nI_ge (show 400 * b + fmL L a + i < 400 * b + fmL L a + mcL L a by omega) (by omega)), if_pos rfl, xg_97_43, em, wa_132 (by omega), n1, xg_97_36, wa_125 (by omega), n2, nI_1, ← em]
      rfl
    have nx := fun (hw : ¬ gMs T L key true a = some (fmL L a + i)) => lq_241m R hb h16 Mt ha k6 r (i + 1) n (by omega) (by omega) (fun x hx => by
      by_cases q : x = i
      · rw [q]; exact hw
      · exact w x (by omega))
    rw [base]
    by_cases hk : nkM T L (fmL L a + i) = key
    · rw [if_pos ((lg_cmp_eq _ _).mpr hk)]
      cases ms : mSM L (fmL L a + i) with
      | true =>
        rw [if_pos (show b2 true = (1 : Int32) by decide)]
        have g1 := (gMs_at Mt ha hi).mp ⟨hk, ms⟩
        cases n with
        | zero => omega
        | succ n =>
          rw [L241_40]
          unfold b_241_40
          rw [xg_97_19, wa_108 (by omega), m2, nI_add, if_neg (show ¬ nI (400 * b + fmL L a + i) = -1 from nI_m1 (by omega)), ite_self, g1, em]
          rfl
      | false =>
        rw [if_neg (show ¬ b2 false = (1 : Int32) by decide)]
        exact nx (fun h => by
          have := ((gMs_at Mt ha hi).mpr h).2
          rw [ms] at this
          cases this)
    · rw [if_neg (fun h => hk ((lg_cmp_eq _ _).mp h))]
      exact nx (fun h => hk ((gMs_at Mt ha hi).mpr h).1)
/-- up the CLASSES -/
theorem lq_241 (Ac : ACY T N L) (hb : b ≤ 1) (Mt : MTr T L b s) : ∀ (f a n : Nat), a < L.length → upI (upT T L) f a = none → f + 1 < n → L_241_6 (mjF (d + 1)) n 97 key (-1) (nI (16 * b + a)) (mjW0 s) = some (some (.int (mR b ((anc (upT T L) f (some a)).findSome? (gMs T L key true)))), mjW0 s)
  | f, a, 0, ha, hf, hn => by omega
  | 0, a, n + 1, ha, hf, hn => by cases hf
  | f + 1, a, n + 1, ha, hf, hn => by
    have hmj := mjN_v
    have l16 := Ac.1.1
    obtain ⟨m1, m2, m3, A⟩ := Mt.2.1 a ha
    have m384 := Mt.2.2.1
    have e400 : nI (fmL L a) + (400 : Int32) * nI b = nI (400 * b + fmL L a) := by rw [show (400 : Int32) = nI 400 from rfl, nI_mul, nI_add, Nat.add_comm]
    have base : L_241_6 (mjF (d + 1)) (n + 1) 97 key (-1) (nI (16 * b + a)) (mjW0 s) = L_241_6 (mjF (d + 1)) n 97 key (mR b (gMs T L key true a)) (cR b (upT T L a)) (mjW0 s) := by
      rw [L241_6]
      unfold b_241_6
      rw [if_neg (show ¬ nI (16 * b + a) = -1 from nI_m1 (by omega)), if_pos rfl, xg_97_18, wa_107 (by omega), m1, xg_97_9, Mt.1, e400]
      have this : L_241_40 (mjF (d + 1)) (L_241_6 (mjF (d + 1)) n) mjN 97 key (-1) (nI (16 * b + a)) (nI (400 * b + fmL L a)) (nI (400 * b + fmL L a)) (mjW0 s) = b_241_94 (mjF (d + 1)) (L_241_6 (mjF (d + 1)) n) 97 key (mR b (gMs T L key true a)) (nI (16 * b + a)) (mjW0 s) := lq_241m (mjF (d + 1)) hb l16 Mt ha (L_241_6 (mjF (d + 1)) n) (key := key) (mcL L a) 0 mjN (by omega) (by omega) (fun x hx => by omega)
      rw [this]
      unfold b_241_94
      rw [xV_97, x_242 (d := d) hb l16 Ac.1 ha A, bI_s]
    have st : (anc (upT T L) (f + 1) (some a)).findSome? (gMs T L key true) = match gMs T L key true a with
        | some x => some x
        | none => (anc (upT T L) f (upT T L a)).findSome? (gMs T L key true) := by
      show (a :: anc (upT T L) f (upT T L a)).findSome? (gMs T L key true) = _
      rw [List.findSome?_cons]
      cases gMs T L key true a <;> rfl
    rw [base, st]
    cases hg : gMs T L key true a with
    | some x =>
      dsimp only
      have xm := (gMs_in ha hg).1
      cases n with
      | zero => omega
      | succ n =>
        rw [L241_6]
        unfold b_241_6 b_241_105
        rw [if_neg (show ¬ mR b (some x) = -1 from nI_m1 (show 400 * b + x < 2 ^ 31 by omega)), ite_self]
    | none =>
      dsimp only
      cases hu : upT T L a with
      | none =>
        cases n with
        | zero => omega
        | succ n =>
          rw [L241_6]
          unfold b_241_6 b_241_105
          rw [if_pos (show cR b none = -1 from rfl)]
          cases f <;> rfl
      | some p =>
        have hp := up_in Ac ha (j := 1) (by rw [up_S hu]; rfl)
        rw [up_S hu] at hf
        exact lq_241 Ac hb Mt f p n hp hf (by omega)
/-- methodOf -/
theorem x_241 (Ac : ACY T N L) (hb : b ≤ 1) (Mt : MTr T L b s) (hc : c < L.length) : mjF (d + 2) 241 [.ref 97, .int (nI (16 * b + c)), .long key] (mjW0 s) = some (some (.int (mR b (memT T L c key true))), mjW0 s) := by
  have hmj := mjN_v
  have h16 : upI (upT T L) 16 c = none := by
    cases h : upI (upT T L) 16 c with
    | none => rfl
    | some y => have := up_end Ac hc h; omega
  rw [e_241]
  unfold f_241 b_241_0
  exact lq_241 Ac hb Mt 16 c mjN hc h16 (by omega)
end MJB46
end
section
/-! ===== the reference's act: call ===== -/
section MJB47
variable {T : TT} {D N b k n m wm cm i i0 c0 m1 d1 o1 : Nat} {t : PT} {E : EV} {r : Row} {j : JS} {H : HEAP} {f : FRM} {fs : List FRM} {st : List Int32} {sc : SCL} {s s' : mjSt3}
theorem L240_S (R : mjR) (n a : Nat) (x y z w : Int32) (hp : mjH) : L_240_148 R (n + 1) a x y z w hp = b_240_148 R (L_240_148 R n) a x y z w hp := rfl
def oV5 (lo : Nat) : mjSt3 → mjSt3 → Prop := offG (fun h j => h = 175 ∧ lo ≤ j ∧ j < lo + 16) (fun _ _ => False)
theorem lq_240 (R : mjR) (hc : c0 < 40) (n6 : n ≤ 6) (hn : n + 1 ≤ st.length) (hl : st.length < 8000) {l4 : Int32} : ∀ (r i m : Nat) (s : mjSt3), i + r = 16 → r < m → STr s st → s.1 97 118 = nI st.length → (∀ x, x < i → s.1 175 (16 * c0 + x) = if x < n then st[n - 1 - x]?.getD 0 else 0) → ∃ s', L_240_148 R m 97 (nI n) l4 (nI c0) (nI i) (mjW0 s) = gI (mjW0 s') 97 12 118 (fun v1 => pI (mjW0 s') 97 12 118 (v1 - (nI n + (1 : Int32))) (fun hp2 => gR hp2 97 12 40 (fun v3 => aI hp2 v3 l4 (fun v4 => pI hp2 97 12 119 v4 (fun hp5 => some (none, hp5)))))) ∧ oV5 (16 * c0) s s' ∧ ∀ x, x < 16 → s'.1 175 (16 * c0 + x) = if x < n then st[n - 1 - x]?.getD 0 else 0
  | r, i, 0, s, e, hr, S, h8, w => by omega
  | 0, i, m + 1, s, e, hr, S, h8, w => by
    refine ⟨s, ?_, offG.rf, fun x hx => w x (by omega)⟩
    rw [L240_S]
    unfold b_240_148
    rw [if_pos (show (16 : Int32) ≤ nI i from nI_le (a := 16) (by omega) (by omega))]
  | r + 1, i, m + 1, s, e, hr, S, h8, w => by
    have i16 : i < 16 := by omega
    have ei : (16 : Int32) * nI c0 + nI i = nI (16 * c0 + i) := by rw [show (16 : Int32) = nI 16 from rfl, nI_mul, nI_add]
    have go : ∀ x : Int32, x = (if i < n then st[n - 1 - i]?.getD 0 else 0) → L_240_148 R (m + 1) 97 (nI n) l4 (nI c0) (nI i) (mjW0 s) = L_240_148 R m 97 (nI n) l4 (nI c0) (nI (i + 1)) (mjW0 (uI s 175 (upd (s.1 175) (16 * c0 + i) x))) → ∃ s', L_240_148 R (m + 1) 97 (nI n) l4 (nI c0) (nI i) (mjW0 s) = gI (mjW0 s') 97 12 118 (fun v1 => pI (mjW0 s') 97 12 118 (v1 - (nI n + (1 : Int32))) (fun hp2 => gR hp2 97 12 40 (fun v3 => aI hp2 v3 l4 (fun v4 => pI hp2 97 12 119 v4 (fun hp5 => some (none, hp5)))))) ∧ oV5 (16 * c0) s s' ∧ ∀ x, x < 16 → s'.1 175 (16 * c0 + x) = if x < n then st[n - 1 - x]?.getD 0 else 0 := by
      intro x hx pre
      have r1 : ∀ h, ¬ h = 175 → (uI s 175 (upd (s.1 175) (16 * c0 + i) x)).1 h = s.1 h := fun h e => uI_ne _ _ _ _ e
      obtain ⟨s', b1, b2', b3⟩ := lq_240 R hc n6 hn hl (l4 := l4) r (i + 1) m (uI s 175 (upd (s.1 175) (16 * c0 + i) x)) (by omega) (by omega) (STr.low st (fun y _ => by rw [r1 176 (by decide)]) S) (by rw [r1 97 (by decide)]; exact h8) (fun y hy => by
        rw [uI_same, upd_g]
        by_cases e' : y = i
        · rw [if_pos (by omega), hx, e']
        · rw [if_neg (by omega)]; exact w y (by omega))
      exact ⟨s', pre.trans b1, offG.tr (show oV5 (16 * c0) s _ from offG.w ⟨rfl, by omega, by omega⟩) b2', b3⟩
    by_cases g : i < n
    · refine go _ rfl ?_
      have at' := STr.at st (n - 1 - i) S (by omega)
      have es : nI st.length - nI n + nI i = nI (st.length - 1 - (n - 1 - i)) := by
        have e1 : st.length = (st.length - n) + n := by omega
        rw [show nI st.length = nI (st.length - n) + nI n by rw [nI_add, ← e1], Int32.add_sub_cancel, nI_add, show st.length - n + i = st.length - 1 - (n - 1 - i) by omega]
      rw [if_pos g, L240_S]
      unfold b_240_148 b_240_191
      rw [if_neg (show ¬ (16 : Int32) ≤ nI i from nI_ge (b := 16) i16 (by decide)), xg_97_115, if_neg (nI_ge g (by omega)), xg_97_117, xg_97_118, h8, es, wa_176 (by omega), at', ei, ws_175 (by omega), nI_1]
    · refine go 0 (by rw [if_neg g]) ?_
      rw [L240_S]
      unfold b_240_148 b_240_191
      rw [if_neg (show ¬ (16 : Int32) ≤ nI i from nI_ge (b := 16) i16 (by decide)), xg_97_115, if_pos (nI_le (by omega) (by omega)), ei, ws_175 (by omega), nI_1]
theorem oV5.Rn {lo : Nat} (o : oV5 lo s s') : oRn s s' := offG.mono o (fun h j x => by unfold chRn; omega) (fun _ _ x => x)
theorem ac_13 (Ac : ACY T N t.1) (M : MRn T t b wm cm (H, f :: fs, k, st, sc) s) (W : RwJ E b i r j s) (o : r.1 = 13) (hl : st.length < 8000) (Mt : MTr T t.1 b s) (hH : HOK T t.1 H) (hw : bsH T t.1 H H.1 ≤ 4000) (hfl : fs.length < 40) (cm4 : cm ≤ 40) (hcl : (f :: fs).length ≤ cm) (ms4 : sc.1 ≤ 100) (n6 : n ≤ 6) (hn : n + 1 ≤ st.length) (ha : r.2.2.1 = nI n) (hp : (j.2.1.headD (0, 0)).1 = m1) (hk : nkM T t.1 m1 = r.2.2.2.2) (hv : st[n]?.getD 0 = 0 ∨ ∃ o1 d1, st[n]?.getD 0 = nI o1 ∧ 1 ≤ o1 ∧ o1 ≤ H.1 ∧ memT T t.1 (H.2 o1).1 (nkM T t.1 m1) true = some d1 ∧ d1 < nMem t.1 ∧ s.1 129 (400 * b + d1) = nI (i0T t d1)) : gAct T t b wm cm (aStep T t.1 E j i0 wm cm r (H, f :: fs, k, st, sc)) s (mjF (D + 4) 231 [.ref 97, .int (nI (5000 * b + i))] (mjW0 s)) := by
  have hmj := mjN_v
  have hi := W.2.1
  have hb := W.2.2
  have m384 := Mt.2.2.1
  obtain ⟨h9, h8, hS⟩ := M.2.2.2 f fs rfl
  have h9' : s.1 97 119 = nI (i0T t f.1 + k) := h9
  have h8' : s.1 97 118 = nI st.length := h8
  have hS' : STr s st := hS
  have e145 : s.1 145 (5000 * b + i) = nI n := by
    rw [W.1.2.2.1, ← ha]
    exact nA_9 (by rw [o]; decide)
  have e147 : s.2.1 147 (5000 * b + i) = r.2.2.2.2 := W.1.2.2.2.2
  have en : nN r.2.2.1 = n := by rw [ha, nN_nI (by omega)]
  have s104 : s.1 97 104 = nI cm := M.1.2.2.2.1.2
  have s105 : s.1 97 105 = nI sc.1 := M.1.2.1.2.1
  have at' := STr.at st n hS' (by omega)
  have es : nI st.length - (1 : Int32) - nI n = nI (st.length - 1 - n) := by
    have e1 : st.length = (st.length - 1 - n) + n + 1 := by omega
    rw [show nI st.length = nI ((st.length - 1 - n) + n + 1) by rw [← e1], nI_pred, ← nI_add, Int32.add_sub_cancel]
  obtain ⟨w, hw'⟩ : ∃ w, w = st[n]?.getD 0 := ⟨_, rfl⟩
  have pre : mjF (D + 4) 231 [.ref 97, .int (nI (5000 * b + i))] (mjW0 s) = bN (mjF (D + 3) 240 [.ref 97, .int (nI (5000 * b + i))] (mjW0 s)) (fun hp54 => some (none, hp54)) := by
    rw [e_231]
    unfold f_231 b_231_0
    rw [xg_97_116, M.c16, xg_97_54, wa_143 (by omega), W.1.1, o, if_neg (by decide), if_neg (by decide), if_neg (by decide), if_neg (by decide), if_neg (by decide), if_neg (by decide), if_neg (by decide), if_neg (by decide), if_neg (by decide), if_neg (by decide), if_neg (by decide), if_neg (by decide), if_pos rfl, xV_97]
  have fail : ∀ q : Int32, gAct T t b wm cm (aFail (H, f :: fs, k, st, sc) q r.2.1) s (bN (gR (mjW0 s) 97 12 55 (fun v34 => aI (mjW0 s) v34 (nI (5000 * b + i)) (fun v35 => rV (mjW0 s) 97 12 (bN (mjF (D + 2) 234 [.ref 97, .int q, .int v35] (mjW0 s)) (fun hp36 => some (none, hp36)))))) (fun hp54 => some (none, hp54))) := fun q => by
    obtain ⟨s3, p1, p2, p3⟩ := x_234 (d := D + 1) M q r.2.1
    exact ⟨s3, by rw [xg_97_55, wa_144 (by omega), W.1.2.1, xV_97, p1, bN_s, bN_s], p2, p3⟩
  have u240 : mjF (D + 3) 240 [.ref 97, .int (nI (5000 * b + i))] (mjW0 s) = f_240 (mjF (D + 2)) 97 (nI (5000 * b + i)) (mjW0 s) := rfl
  rw [pre, as_13 o, en, hp, aCall_eq, ← hw']
  by_cases w0 : w = 0
  · rw [if_pos w0, u240]
    unfold f_240 b_240_0
    rw [xg_97_56, wa_145 (by omega), e145, xg_97_117, xg_97_118, h8', es, wa_176 (by omega), at', ← hw', if_pos w0]
    exact fail 1
  · rw [if_neg w0]
    obtain ⟨o1, d1, q1, q2, q3, q4, q5, q6⟩ := hv.resolve_left (by rw [← hw']; exact w0)
    rw [← hw'] at q1
    have b3 := bs_3 Ac.1 H H.1 (fun x x1 x2 => (hH x x1 x2).1)
    obtain ⟨p1, p2, _, _⟩ := M.2.1 o1 q2 q3
    have cl := (hH o1 q2 q3).1
    have l16 := Ac.1.1
    have fl1 : (f :: fs).length = fs.length + 1 := rfl
    by_cases lc : (f :: fs).length = cm
    · rw [if_pos lc, u240]
      unfold f_240 b_240_0
      rw [xg_97_56, wa_145 (by omega), e145, xg_97_117, xg_97_118, h8', es, wa_176 (by omega), at', ← hw', if_neg w0, xg_97_116, M.c16, xg_97_104, s104, if_pos (show nI (fs.length + 1) = nI cm by rw [← lc]; rfl)]
      exact fail 5
    · rw [if_neg lc]
      have nw : nN w = o1 := by rw [q1, nN_nI (by omega)]
      rw [nw, q4]
      dsimp only
      have ne : ¬ nI (fs.length + 1) = nI cm := fun e => lc (by
        have := (nI_eq (by omega) (by omega)).mp e
        omega)
      have c4 : fs.length + 1 < 40 := by omega
      obtain ⟨mx, hmx⟩ : ∃ mx, mx = (if sc.1 < fs.length + 1 + 1 then fs.length + 1 + 1 else sc.1) := ⟨_, rfl⟩
      have emx : (if nI (fs.length + 1 + 1) ≤ nI sc.1 then nI sc.1 else nI (fs.length + 1 + 1)) = nI mx := by
        rw [hmx]
        by_cases q : sc.1 < fs.length + 1 + 1
        · rw [if_pos q, if_neg (nI_ge q (by omega))]
        · rw [if_neg q, if_pos (nI_le (by omega) (by omega))]
      obtain ⟨z1, g1⟩ : ∃ y, y = uI s 97 (upd (s.1 97) 116 (nI (fs.length + 1 + 1))) := ⟨_, rfl⟩
      obtain ⟨z2, g2⟩ : ∃ y, y = uI z1 97 (upd (z1.1 97) 105 (nI mx)) := ⟨_, rfl⟩
      obtain ⟨z3, g3⟩ : ∃ y, y = uI z2 171 (upd (z2.1 171) (fs.length + 1) (mR b (some d1))) := ⟨_, rfl⟩
      obtain ⟨z4, g4⟩ : ∃ y, y = uI z3 172 (upd (z3.1 172) (fs.length + 1) (nI o1)) := ⟨_, rfl⟩
      obtain ⟨z5, g5⟩ : ∃ y, y = uI z4 173 (upd (z4.1 173) (fs.length + 1) (-1)) := ⟨_, rfl⟩
      obtain ⟨z6, g6⟩ : ∃ y, y = uI z5 174 (upd (z5.1 174) (fs.length + 1) (nI (i0T t f.1 + k))) := ⟨_, rfl⟩
      have y1 : ∀ h, ¬ h = 97 → z2.1 h = s.1 h := fun h e => by rw [g2, uI_ne _ _ _ _ e, g1, uI_ne _ _ _ _ e]
      have y97 : ∀ x, z2.1 97 x = if x = 105 then nI mx else if x = 116 then nI (fs.length + 1 + 1) else s.1 97 x := fun x => by rw [g2, uI_same, upd_g, g1, uI_same, upd_g]
      have y6 : ∀ h, ¬ (171 ≤ h ∧ h ≤ 174) → z6.1 h = z2.1 h := fun h e => by rw [g6, uI_ne _ _ _ _ (by omega), g5, uI_ne _ _ _ _ (by omega), g4, uI_ne _ _ _ _ (by omega), g3, uI_ne _ _ _ _ (by omega)]
      have z197 : ∀ x, z1.1 97 x = if x = 116 then nI (fs.length + 1 + 1) else s.1 97 x := fun x => by rw [g1, uI_same, upd_g]
      have x171 : ∀ x, z6.1 171 x = if x = fs.length + 1 then mR b (some d1) else s.1 171 x := fun x => by rw [g6, uI_ne _ _ _ _ (by decide), g5, uI_ne _ _ _ _ (by decide), g4, uI_ne _ _ _ _ (by decide), g3, uI_same, upd_g, y1 171 (by decide)]
      have x172 : ∀ x, z6.1 172 x = if x = fs.length + 1 then nI o1 else s.1 172 x := fun x => by rw [g6, uI_ne _ _ _ _ (by decide), g5, uI_ne _ _ _ _ (by decide), g4, uI_same, upd_g, g3, uI_ne _ _ _ _ (by decide), y1 172 (by decide)]
      have x173 : ∀ x, z6.1 173 x = if x = fs.length + 1 then -1 else s.1 173 x := fun x => by rw [g6, uI_ne _ _ _ _ (by decide), g5, uI_same, upd_g, g4, uI_ne _ _ _ _ (by decide), g3, uI_ne _ _ _ _ (by decide), y1 173 (by decide)]
      have x174 : ∀ x, z6.1 174 x = if x = fs.length + 1 then nI (i0T t f.1 + k) else s.1 174 x := fun x => by rw [g6, uI_same, upd_g, g5, uI_ne _ _ _ _ (by decide), g4, uI_ne _ _ _ _ (by decide), g3, uI_ne _ _ _ _ (by decide), y1 174 (by decide)]
      have x97 : z6.1 97 = z2.1 97 := y6 97 (by decide)
      have x176 : z6.1 176 = s.1 176 := by rw [y6 176 (by decide), y1 176 (by decide)]
      obtain ⟨s7, c1, c2, c3⟩ := lq_240 (c0 := fs.length + 1) (l4 := mR b (some d1)) (mjF (D + 2)) c4 n6 hn hl 16 0 mjN z6 (by omega) (by omega) (STr.low st (fun y _ => by rw [x176]) hS') (by rw [x97, y97, if_neg (by decide), if_neg (by decide)]; exact h8') (fun x hx => by omega)
      have k7 : ∀ h, ¬ h = 175 → s7.1 h = z6.1 h := fun h e => funext fun y => c2.1 h y (by omega)
      obtain ⟨z8, g8⟩ : ∃ y, y = uI s7 97 (upd (s7.1 97) 118 (nI (st.length - (n + 1)))) := ⟨_, rfl⟩
      obtain ⟨z9, g9⟩ : ∃ y, y = uI z8 97 (upd (z8.1 97) 119 (nI (i0T t d1))) := ⟨_, rfl⟩
      have k9 : ∀ h, ¬ h = 97 → z9.1 h = s7.1 h := fun h e => by rw [g9, uI_ne _ _ _ _ e, g8, uI_ne _ _ _ _ e]
      have w97 : ∀ x, z9.1 97 x = if x = 119 then nI (i0T t d1) else if x = 118 then nI (st.length - (n + 1)) else if x = 105 then nI mx else if x = 116 then nI (fs.length + 1 + 1) else s.1 97 x := fun x => by rw [g9, uI_same, upd_g, g8, uI_same, upd_g, k7 97 (by decide), x97, y97]
      have nn : ∀ x, ¬ (x = 119 ∨ x = 118 ∨ x = 105 ∨ x = 116) → z9.1 97 x = s.1 97 x := fun x hx => by rw [w97, if_neg (by omega), if_neg (by omega), if_neg (by omega), if_neg (by omega)]
      have kk : ∀ h, ¬ (h = 97 ∨ (171 ≤ h ∧ h ≤ 175)) → z9.1 h = s.1 h := fun h e => by rw [k9 h (by omega), k7 h (by omega), y6 h (by omega), y1 h (by omega)]
      have k64 : ∀ h, 171 ≤ h ∧ h ≤ 174 → z9.1 h = z6.1 h := fun h e => by rw [k9 h (by omega), k7 h (by omega)]
      refine ⟨z9, ?_, ?_, ?_⟩
      · rw [u240]
        unfold f_240 b_240_0
        have sb : nI st.length - (nI n + (1 : Int32)) = nI (st.length - (n + 1)) := by
          have e1 : st.length = (st.length - (n + 1)) + (n + 1) := by omega
          rw [nI_1, show nI st.length = nI (st.length - (n + 1)) + nI (n + 1) by rw [nI_add, ← e1], Int32.add_sub_cancel]
        rw [xg_97_56, wa_145 (by omega), e145, xg_97_117, xg_97_118, h8', es, wa_176 (by omega), at', ← hw', if_neg w0, xg_97_116, M.c16, xg_97_104, s104, if_neg ne, xg_97_109, q1, wa_169 (by omega), p1, xg_97_58, wa_147 (by omega), e147, xV_97, x_241 (d := D) Ac hb Mt cl, bI_s, ← hk, q4, xg_97_116, M.c16, xg_97_116, M.c16, nI_1, xp_97_116, ← g1, xg_97_105, z197, if_neg (by decide), s105, xg_97_116, z197, if_pos rfl, q_max, bI_s, emx, xp_97_105, ← g2, xg_97_111, ws_171 c4, ← g3, xg_97_112, ws_172 c4, ← g4, xg_97_113, ws_173 c4, ← g5, xg_97_114, xg_97_119, show z5.1 97 119 = nI (i0T t f.1 + k) by rw [g5, uI_ne _ _ _ _ (by decide), g4, uI_ne _ _ _ _ (by decide), g3, uI_ne _ _ _ _ (by decide), y97, if_neg (by decide), if_neg (by decide)]; exact h9', ws_174 c4, ← g6, show (0 : Int32) = nI 0 from rfl, c1, xg_97_118, k7 97 (by decide), x97, y97, if_neg (by decide), if_neg (by decide), h8', sb]
        have e8 : upd (z2.1 97) 118 (nI (st.length - (n + 1))) = upd (s7.1 97) 118 (nI (st.length - (n + 1))) := by rw [k7 97 (by decide), x97]
        rw [xp_97_118, ← g8, xg_97_40, show mR b (some d1) = nI (400 * b + d1) from rfl, wa_129 (by omega), show z8.1 129 (400 * b + d1) = nI (i0T t d1) by rw [g8, uI_ne _ _ _ _ (by decide), k7 129 (by decide), y6 129 (by decide), y1 129 (by decide)]; exact q6, xp_97_119, ← g9, bN_s]
      · exact offG.tr (b := z1) (by rw [g1]; exact oRn.wr (by unfold chRn; omega)) (offG.tr (b := z2) (by rw [g2]; exact oRn.wr (by unfold chRn; omega)) (offG.tr (b := z3) (by rw [g3]; exact oRn.wr (by unfold chRn; omega)) (offG.tr (b := z4) (by rw [g4]; exact oRn.wr (by unfold chRn; omega)) (offG.tr (b := z5) (by rw [g5]; exact oRn.wr (by unfold chRn; omega)) (offG.tr (b := z6) (by rw [g6]; exact oRn.wr (by unfold chRn; omega)) (offG.tr c2.Rn (offG.tr (b := z8) (by rw [g8]; exact oRn.wr (by unfold chRn; omega)) (by rw [g9]; exact oRn.wr (by unfold chRn; omega)))))))))
      · obtain ⟨⟨⟨b1, b2', b3', b4⟩, ⟨b5, b6, b7⟩, ⟨b8, b9, b10⟩, ⟨b11, b12⟩, b13⟩, hHp, hF, hT⟩ := M
        have d384 : ¬ d1 = 384 := by omega
        have dl : (st.drop (n + 1)).length = st.length - (n + 1) := List.length_drop ..
        refine ⟨⟨⟨by rw [nn 96 (by omega)]; exact b1, by rw [nn 97 (by omega)]; exact b2', by rw [nn 98 (by omega)]; exact b3', by rw [nn 99 (by omega)]; exact b4⟩, ⟨by rw [nn 100 (by omega)]; exact b5, ?_, by rw [nn 106 (by omega)]; exact b7⟩, ⟨by rw [nn 102 (by omega)]; exact b8, by rw [nn 103 (by omega)]; exact b9, by rw [w97, if_neg (by decide), if_neg (by decide), if_neg (by decide), if_pos rfl]; rfl⟩, ⟨by rw [nn 101 (by omega)]; exact b11, by rw [nn 104 (by omega)]; exact b12⟩, fun x h1 h2 => by rw [kk 167 (by omega)]; exact b13 x h1 h2⟩, hHp.keep (fun x hx => kk x (by omega)), ⟨⟨?_, ?_, ?_, fun v hv => ?_, fun g gs hg => ?_⟩, ?_⟩, fun g gs hg => ?_⟩
        · show z9.1 97 105 = nI (if sc.1 < (f :: fs).length + 1 then (f :: fs).length + 1 else sc.1)
          rw [w97, if_neg (by decide), if_neg (by decide), if_pos rfl, hmx]
          rfl
        · show z9.1 171 (fs.length + 1) = mR b (moM d1)
          rw [k64 171 (by omega), x171, if_pos rfl, show moM d1 = some d1 from if_neg d384]
        · show z9.1 172 (fs.length + 1) = nI o1
          rw [k64 172 (by omega), x172, if_pos rfl]
        · show z9.1 173 (fs.length + 1) = -1
          rw [k64 173 (by omega), x173, if_pos rfl]
        · show z9.1 175 (16 * (fs.length + 1) + v) = _
          rw [k9 175 (by decide)]
          exact c3 v hv
        · have hg' : f = g := (List.cons.inj hg).1
          show z9.1 174 (fs.length + 1) = nI (i0T t g.1 + k)
          rw [k64 174 (by omega), x174, if_pos rfl, ← hg']
        · refine FRr.low (n := fs.length + 1) (fun h x h1 h2 => ?_) (fun x hx => ?_) (f :: fs) (Nat.le_refl _) hF
          · rw [k64 h h1]
            have h1' : h = 171 ∨ h = 172 ∨ h = 173 ∨ h = 174 := by omega
            rcases h1' with e | e | e | e
            · rw [e, x171, if_neg (by omega)]
            · rw [e, x172, if_neg (by omega)]
            · rw [e, x173, if_neg (by omega)]
            · rw [e, x174, if_neg (by omega)]
          · rw [k9 175 (by decide), c2.1 175 _ (by omega), y6 175 (by decide), y1 175 (by decide)]
        · have hg' : _ = g := (List.cons.inj hg).1
          rw [← hg']
          refine ⟨by rw [w97, if_pos rfl]; rfl, ?_, STr.low _ (fun y _ => by rw [kk 176 (by omega)]) (STr.drop st (n + 1) hS')⟩
          show z9.1 97 118 = nI (st.drop (n + 1)).length
          rw [w97, if_neg (by decide), if_pos rfl, dl]
end MJB47
end
