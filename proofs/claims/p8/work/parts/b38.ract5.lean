/-! ===== the reference's act: a FIELD is set ===== -/
section MJB38
variable {T : TT} {N b wm cm k n d i i0 o1 o2 m c : Nat} {L : List CD} {t : PT} {E : EV} {r : Row} {j : JS} {H : HEAP} {f : FRM} {fs : List FRM} {st : List Int32} {sc : SCL} {s s' : mjSt3} {v w : Int32}
theorem fr_end (T : TT) (L : List CD) (H : HEAP) (a1 : 1 ≤ o1) : frO T L H o1 + nmL L (H.2 o1).1 + fldT T L (H.2 o1).1 + 2 * o1 = bsH T L H o1 := by
  have g := bs_ge T L H (o1 - 1)
  have e : bsH T L H o1 = bsH T L H (o1 - 1) + szO T L (H.2 o1).1 := by
    have : o1 = (o1 - 1) + 1 := by omega
    rw [this]
    rfl
  unfold szO at e
  unfold frO
  omega
theorem fr_sep (T : TT) (L : List CD) (H : HEAP) (a1 : 1 ≤ o1) (a2 : o1 < o2) : frO T L H o1 + nmL L (H.2 o1).1 + fldT T L (H.2 o1).1 ≤ frO T L H o2 := by
  have e := fr_end T L H a1
  have g := bs_mono T L H o1 (o2 - 1 - o1)
  rw [show o1 + (o2 - 1 - o1) = o2 - 1 by omega] at g
  have eu : frO T L H o2 = bsH T L H (o2 - 1) - 2 * (o2 - 1) := rfl
  omega
theorem fr_set {x : Nat} (h : o1 ≤ H.1) : frO T L (setF H o2 x v) o1 = frO T L H o1 := by
  unfold frO
  rw [bs_same (H := H) (fun o p1 p2 => HX.set.2 o p1 p2) (o1 - 1) (by omega)]
theorem HPr.set (h : HPr T L b H s) (a1 : 1 ≤ o1) (a2 : o1 ≤ H.1) (hi : i < fldT T L (H.2 o1).1) (e9 : s'.1 169 = s.1 169) (e0 : s'.1 170 = s.1 170) (e8 : ∀ x, s'.1 168 x = if x = frO T L H o1 + nmL L (H.2 o1).1 + i then v else s.1 168 x) : HPr T L b (setF H o1 i v) s' := by
  intro o p1 p2
  have p2' : o ≤ H.1 := p2
  obtain ⟨h1, h2, h3, h4⟩ := h o p1 p2'
  have ec : ((setF H o1 i v).2 o).1 = (H.2 o).1 := HX.set.2 o p1 p2'
  have ex : (setF H o1 i v).2 o = if o = o1 then ((H.2 o1).1, (H.2 o1).2.1, fun y => if y = i then v else (H.2 o1).2.2 y) else H.2 o := rfl
  have sep : ¬ o = o1 → frO T L H o + nmL L (H.2 o).1 + fldT T L (H.2 o).1 ≤ frO T L H o1 ∨ frO T L H o1 + nmL L (H.2 o1).1 + fldT T L (H.2 o1).1 ≤ frO T L H o := by
    intro ne
    by_cases q : o < o1
    · exact Or.inl (fr_sep T L H p1 q)
    · exact Or.inr (fr_sep T L H a1 (by omega))
  rw [fr_set p2', ec, e9, e0]
  refine ⟨h1, h2, fun y hy => ?_, fun y hy => ?_⟩
  · rw [e8, if_neg, h3 y hy, ex]
    · by_cases e : o = o1
      · rw [if_pos e, e]
      · rw [if_neg e]
    · intro q
      by_cases e : o = o1
      · rw [e] at q hy
        omega
      · rcases sep e with g | g <;> omega
  · rw [e8, ex]
    by_cases e : o = o1
    · rw [if_pos e, e]
      dsimp only
      by_cases q : y = i
      · rw [if_pos q, if_pos (by omega)]
      · rw [if_neg q, if_neg (by omega)]
        rw [e] at h4 hy
        exact h4 y hy
    · rw [if_neg e, if_neg (fun q => by rcases sep e with g | g <;> omega)]
      exact h4 y hy
theorem ac_18 (M : MRn T t b wm cm (H, f :: fs, k, v :: w :: st, sc) s) (W : RwJ E b i r j s) (o : r.1 = 18) (hl : st.length + 1 < 8000) (hN : ∀ c, c < t.1.length → s.1 104 (16 * b + c) = nI (nmL t.1 c)) (hn : HN T N t.1) (hH : HOK T t.1 H) (hw : bsH T t.1 H H.1 ≤ 4000) (hv : w = 0 ∨ ∃ o1, w = nI o1 ∧ 1 ≤ o1 ∧ o1 ≤ H.1 ∧ j.2.2.2.2.2.2.1 < fldT T t.1 (H.2 o1).1) : gAct T t b wm cm (aStep T t.1 E j i0 wm cm r (H, f :: fs, k, v :: w :: st, sc)) s (mjF (d + 2) 231 [.ref 97, .int (nI (5000 * b + i))] (mjW0 s)) := by
  have hi := W.2.1
  have hb := W.2.2
  have e145 : s.1 145 (5000 * b + i) = nI j.2.2.2.2.2.2.1 := by
    rw [W.1.2.2.1]
    show nA E r j = _
    unfold nA
    rw [o, if_neg (by decide), if_neg (by decide), if_pos (by decide)]
  obtain ⟨s1, a1, a2, a3⟩ := x_238 (d := d) M (by show st.length + 1 < 8000; omega)
  obtain ⟨s2, c1, c2, c3⟩ := x_238 (d := d) a3 (by omega)
  have o2' : oRn s s2 := offG.tr a2 c2
  have rr : ∀ h, h = 104 ∨ h = 145 ∨ h = 146 → s2.1 h = s.1 h := fun h hh => funext fun y => o2'.1 h y (by unfold chRn; omega)
  have pre : mjF (d + 2) 231 [.ref 97, .int (nI (5000 * b + i))] (mjW0 s) = (if w = 0 then gR (mjW0 s2) 97 12 57 (fun v84 => aI (mjW0 s2) v84 (nI (5000 * b + i)) (fun v85 => rV (mjW0 s2) 97 12 (bN (mjF (d + 1) 234 [.ref 97, .int (1 : Int32), .int v85] (mjW0 s2)) (fun hp86 => some (none, hp86))))) else gR (mjW0 s2) 97 12 108 (fun v74 => gR (mjW0 s2) 97 12 110 (fun v75 => aI (mjW0 s2) v75 w (fun v76 => gR (mjW0 s2) 97 12 15 (fun v77 => gR (mjW0 s2) 97 12 109 (fun v78 => aI (mjW0 s2) v78 w (fun v79 => aI (mjW0 s2) v77 v79 (fun v80 => gR (mjW0 s2) 97 12 56 (fun v81 => aI (mjW0 s2) v81 (nI (5000 * b + i)) (fun v82 => sI (mjW0 s2) v74 ((v76 + v80) + v82) v (fun hp83 => some (none, hp83)))))))))))) := by
    rw [e_231]
    unfold f_231 b_231_0
    rw [xg_97_116, M.c16, xg_97_54, wa_143 (by omega), W.1.1, o, if_neg (by decide), if_neg (by decide), if_neg (by decide), if_neg (by decide), if_neg (by decide), if_neg (by decide), if_neg (by decide), if_neg (by decide), if_neg (by decide), if_neg (by decide), if_neg (by decide), if_neg (by decide), if_neg (by decide), if_neg (by decide), if_neg (by decide), if_neg (by decide), if_neg (by decide), if_pos rfl, xV_97, a1, bI_s, xV_97, c1, bI_s]
  rw [as_18 o, pre]
  show gAct T t b wm cm (if w = 0 then aFail (H, f :: fs, k, v :: w :: st, sc) 1 r.2.2.2.1 else (setF H (nN w) j.2.2.2.2.2.2.1 v, f :: fs, k, st, sc)) s _
  by_cases w0 : w = 0
  · rw [if_pos w0, if_pos w0, xg_97_57, wa_146 (by omega), rr 146 (by omega), W.1.2.2.2.1]
    obtain ⟨s3, p1, p2, p3⟩ := x_234 (d := d) c3 1 r.2.2.2.1
    exact ⟨s3, by rw [xV_97, p1, bN_s], offG.tr o2' p2, p3.fl⟩
  · rw [if_neg w0, if_neg w0]
    obtain ⟨o1, q1, q2, q3, q4⟩ := hv.resolve_left w0
    obtain ⟨f1, f2, f3, f4, f5, f6, f7⟩ := x_fld c3.2.1 (fun c hc => by rw [rr 104 (by omega)]; exact hN c hc) hn hH hw hb q2 q3 q4
    obtain ⟨z1, g1⟩ : ∃ y, y = uI s2 168 (upd (s2.1 168) (frO T t.1 H o1 + nmL t.1 (H.2 o1).1 + j.2.2.2.2.2.2.1) v) := ⟨_, rfl⟩
    have r1 : ∀ h, ¬ h = 168 → z1.1 h = s2.1 h := fun h e => by rw [g1]; exact uI_ne _ _ _ _ e
    refine ⟨z1, ?_, offG.tr o2' (by rw [g1]; exact oRn.wr (by unfold chRn; omega)), ?_⟩
    · rw [q1, xg_97_108, xg_97_110, wa_170 f1, f2, xg_97_15, xg_97_109, wa_169 f1, f3, wa_104 (by omega), f5, xg_97_56, wa_145 (by omega), rr 145 (by omega), e145, nI_add, nI_add, ws_168 f6, ← g1]
    · rw [q1, nN_nI (by omega)]
      have e97 := r1 97 (by decide)
      obtain ⟨⟨b1, b2', b3, b4, b5⟩, hHp, hF, hT⟩ := c3
      obtain ⟨t1, t2, t3⟩ := hT f fs rfl
      refine ⟨⟨by rw [e97]; exact b1, by rw [e97]; exact b2', ?_, by rw [e97]; exact b4, fun x h1 h2 => by rw [r1 167 (by decide)]; exact b5 x h1 h2⟩, hHp.set q2 q3 q4 (r1 169 (by decide)) (r1 170 (by decide)) (fun x => by rw [g1, uI_same, upd_g]), FRr.keep (fun x hx => r1 x (by omega)) _ hF, fun g gs hg => ?_⟩
      · rw [e97]
        have : bsH T t.1 (setF H o1 j.2.2.2.2.2.2.1 v) H.1 = bsH T t.1 H H.1 := bs_same (H := H) (fun o p1 p2 => HX.set.2 o p1 p2) H.1 (Nat.le_refl _)
        show s2.1 97 102 = nI (bsH T t.1 (setF H o1 j.2.2.2.2.2.2.1 v) H.1) ∧ _
        rw [this]
        exact b3
      · have hg' : f = g := (List.cons.inj hg).1
        rw [e97, ← hg']
        exact ⟨t1, t2, STr.low st (fun x _ => by rw [r1 176 (by decide)]) t3⟩
end MJB38
