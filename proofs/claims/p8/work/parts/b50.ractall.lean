/-! ===== the reference's act is the pure machine's order ===== -/
section MJB50
variable {T : TT} {d N kb b wm cm k : Nat} {t : PT} {rs : List RcM} {z : PB} {tr : Bool} {H : HEAP} {r : Row} {j : JS} {l : List Ins} {f : FRM} {fs : List FRM} {st : List Int32} {sc : SCL} {s : mjSt3}
theorem vOK_obj {L : List CD} {kk : Nat} {v : Int32} (h : vOK T L H (kk + 2) v) : v = 0 ∨ ∃ o1, v = nI o1 ∧ 1 ≤ o1 ∧ o1 ≤ H.1 ∧ (vwT (nmL L) (abT T L) (H.2 o1).1 (cK kk)).isSome = true := by
  rcases h with h | ⟨o1, a1, a2, a3, a4⟩
  · exact Or.inl h
  · exact Or.inr ⟨o1, a3, a1, a2, a4⟩
theorem x_231 (P : PRX T N (800 * b) t rs kb z tr) (G0 : RPG T b t rs z tr s) (h9 : s.1 97 9 = nI b) (hb : b ≤ 1) (hA : AOK T t rs z tr (800 * b) wm cm (H, f :: fs, k, st, sc)) (ph : sc.2.2.2.2.1 = 1) (wm4 : wm ≤ 4000) (cm4 : cm ≤ 40) (ms4 : sc.1 ≤ 100) (hs : sc.2.1 < 100000000) (h384 : ∀ c, fldT T t.1 c ≤ 384) (M : MRn T t b wm cm (H, f :: fs, k + 1, st, sc) s) (ej : jrun (EMx T t tr (800 * b) f.1) ((osM rs z f.1).take k) (jmT T t.1 f.1) = some (j, l)) (hr : r = ((osM rs z f.1)[k]?).getD oOver) : gAct T t b wm cm (aStep T t.1 (EMx T t tr (800 * b) f.1) j (i0T t f.1) wm cm r (H, f :: fs, k + 1, st, sc)) s (mjF (d + 6) 231 [.ref 97, .int (nI (5000 * b + (i0T t f.1 + k)))] (mjW0 s)) := by
  have Ac := P.1.1
  have PM := P.1.2.1
  have hn := Ac.1
  have m384 := P.2.1
  obtain ⟨j0, l0, seg, rest, ej0, F, hk, ty0, est, sl, fm, im⟩ := AOK.info P hA ph
  have ejj : j0 = j := (Prod.mk.inj (Option.some.inj (ej0.symm.trans ej))).1
  rw [ejj] at ty0
  have ty : TYS T t.1 H seg (jRS j) := ty0
  have hH : HOK T t.1 H := hA.1
  have hw : bsH T t.1 H H.1 ≤ wm := hA.2.1
  have hl : (f :: fs).length ≤ cm := hA.2.2.1
  have fl1 : (f :: fs).length = fs.length + 1 := rfl
  have hfl : fs.length < 40 := by omega
  have hc : ∀ o, 1 ≤ o → o ≤ H.1 → (H.2 o).1 < t.1.length := fun o o1 o2 => (hH o o1 o2).1
  have i5 := P.2.2 f.1 fm im
  have stl : st.length < 7000 := by omega
  cases hkr : (osM rs z f.1)[k]? with
  | none =>
    have kl : (osM rs z f.1).length ≤ k := List.getElem?_eq_none_iff.mp hkr
    have er : r = oOver := by rw [hr, hkr]; rfl
    have e28 : r.1 = 28 := by rw [er]; rfl
    have W : RwJ (EMx T t tr (800 * b) f.1) b (i0T t f.1 + k) r j s := by
      refine ⟨?_, by omega, hb⟩
      have ov := (G0.2.2.2.2.2 f.1 fm im).2
      unfold OvB at ov
      have lk : (osM rs z f.1).length = k := by omega
      have lk' : (zT rs z f.1).2.2.2.1.length = k := lk
      rw [lk'] at ov
      rw [nA_9 (by rw [e28]; decide), er]
      exact ov
    exact ac_28o (d := d + 3) M W e28 (by rw [er]; rfl) (by omega) hfl
  | some r0 =>
    have er : r0 = r := by rw [hr, hkr]; rfl
    rw [er] at hkr
    have kl := (List.getElem?_eq_some_iff.mp hkr).1
    obtain ⟨j', l1, hj, ej', ok, J, _⟩ := P.step fm im hkr ej
    obtain ⟨Rwj, Kd7⟩ := (G0.2.2.2.2.2 f.1 fm im).1 k r hkr j l ej
    have W : RwJ (EMx T t tr (800 * b) f.1) b (i0T t f.1 + k) r j s := ⟨Rwj, by omega, hb⟩
    obtain ⟨E, hE⟩ : ∃ E, E = EMx T t tr (800 * b) f.1 := ⟨_, rfl⟩
    have E1 : E.1 = T := by rw [hE]; exact EMx_1.1
    have E2 : E.2.1 = t.1 := by rw [hE]; exact EMx_1.2
    have Kd : r.1 = 7 ∨ r.1 = 14 → ∀ kk, kdE E r.2.2.1 = some kk → TKr t.1 b s r.2.2.1 (kk + 2) := fun h kk hkk => by
      have := Kd7 h kk (by rw [hE] at hkk; exact hkk)
      rw [(EvR_1 f.1).2] at this
      exact this
    have NK : ∀ kk, kdE E r.2.2.1 = some kk → TKr t.1 b s r.2.2.1 (kk + 2) → ∃ kx, r.2.2.1 = nI kx ∧ NWk T t b H f kx kk s := fun kk h1 h2 => NWk_of P G0 F (by rw [hE] at h1; exact h1) h2
    rw [← hE] at hj W
    rw [← hE]
    obtain ⟨G, hG⟩ : ∃ G, G = fdG ((osM rs z f.1).take k) [] := ⟨_, rfl⟩
    rw [← hG] at ok J
    obtain ⟨R, K, V⟩ := J
    rcases ok with o | ⟨o, G', eG⟩ | ⟨o, G', eG⟩ | ⟨o, n, G', n6, ob, eG⟩ | ⟨o, n, i, w, G', eG, hi, n6, oa⟩ | ⟨o, n, G', n6, oa, eG⟩ | ⟨o, eG⟩ | ⟨o, eG⟩ | ⟨o, eG⟩ | ⟨o, eG⟩ | ⟨o, eG⟩ | ⟨o, eG⟩
    · rcases o with o | o | o | o | o
      · exact ac_3 (d := d + 4) M W o (by omega)
      · exact ac_4 (d := d + 4) M W o (by omega)
      · exact ac_5 (d := d + 4) M W o (by omega) hfl
      · rw [jr_6 o] at hj
        cases hv : vsK j.2.2.1 r.2.2.2.2 with
        | none => rw [hv] at hj; cases hj
        | some e => exact ac_6 (d := d + 4) M W o (by omega) hfl hv (V.1 e (List.mem_of_find?_eq_some hv)).2.1
      · rw [jr_7 o] at hj
        cases hv : kdE E r.2.2.1 with
        | none => rw [hv] at hj; cases hj
        | some kd =>
          obtain ⟨kx, x1, x2⟩ := NK kd hv (Kd (Or.inl o) kd hv)
          exact ac_7 (d := d) Ac M W o (by omega) G0.1 G0.2.1 hH hw wm4 hfl m384 h384 hv x1 x2
    · subst eG
      obtain ⟨t2, st1, rs1, q1, q2, t1, st2, rs2, q3, q4, R2⟩ := R
      rw [q2, q4] at ty
      obtain ⟨b', seg1, s1, y1, ty1⟩ := TYS.cons ty
      obtain ⟨a', seg2, s2, y2, ty2⟩ := TYS.cons ty1
      have st' : st = b' :: a' :: (seg2 ++ rest) := by rw [est, s1, s2]; rfl
      rw [st', List.length_cons, List.length_cons] at stl
      rw [st'] at M ⊢
      exact ac_9 (d := d + 3) M W o (by omega)
    · subst eG
      obtain ⟨t1, st1, rs1, q1, q2, R1⟩ := R
      have tk : tOK t.1 t1.1 := K t1.1 (by rw [q2]; exact List.mem_cons_self)
      rw [q2] at ty
      obtain ⟨v, seg1, s1, y1, ty1⟩ := TYS.cons ty
      have st' : st = v :: (seg1 ++ rest) := by rw [est, s1]; rfl
      rcases o with o | o | o | o
      · rw [st', List.length_cons] at stl
        rw [st'] at M ⊢
        exact ac_8 (d := d + 4) M W o (by omega)
      · rw [jr_10 o, q1] at hj
        dsimp only at hj
        cases hp : prtE E t1 r.2.2.2.2 false with
        | none => rw [hp] at hj; cases hj
        | some p =>
          obtain ⟨kk, k1, k2, k3⟩ := prt_c hp (by rw [E2]; exact tk)
          rw [E2] at k2
          rw [E1, E2] at k3
          obtain ⟨p1, p2, p3, p4, _⟩ := mem_in Ac k2 k3
          have esl : slotJ E r j = numM T t.1 p.1 := by
            unfold slotJ
            rw [q1]
            dsimp only
            rw [hp]
            dsimp only
            rw [E1, E2]
          rw [k1] at y1
          rw [st', List.length_cons] at stl
          rw [st'] at M ⊢
          refine ac_10 (d := d + 4) M W o (by omega) G0.1.1 hn hH (by omega) (x := t1) (p := p) ⟨by rw [q1]; rfl, by rw [q1]; exact List.cons_ne_nil _ _⟩ hp ?_
          rcases vOK_obj y1 with h | ⟨o1, w1, w2, w3, w4⟩
          · exact Or.inl h
          · exact Or.inr ⟨o1, w1, w2, w3, by rw [esl]; exact num_lt2 Ac (hc o1 w2 w3) p1 p4 (mem_vw Ac (hc o1 w2 w3) k2 w4 k3)⟩
      · rw [jr_14 o, q1] at hj
        dsimp only at hj
        cases hv : kdE E r.2.2.1 with
        | none => rw [hv] at hj; cases hj
        | some kd =>
          rw [hv] at hj
          dsimp only at hj
          by_cases g0 : t1.1 = 0
          · rw [if_pos g0] at hj; cases hj
          · obtain ⟨kx, x1, x2⟩ := NK kd hv (Kd (Or.inr o) kd hv)
            rw [st', List.length_cons] at stl
            rw [st'] at M ⊢
            refine ac_14 (d := d) Ac M W o (by omega) G0.1 hH (by omega) hfl m384 hv x1 x2 ?_
            obtain ⟨x1', al⟩ := t1
            match x1', y1, g0 with
            | 0, _, g0 => exact absurd rfl g0
            | 1, y1, _ => exact Or.inl y1
            | kk + 2, y1, _ =>
              rcases vOK_obj y1 with h | ⟨o1, w1, w2, w3, _⟩
              · exact Or.inl h
              · exact Or.inr ⟨o1, w1, w2, w3⟩
      · exact ac_30 (d := d + 4) M W o
    · exact ac_11 (d := d + 4) M W o
    · exact ac_12 (d := d + 4) M W o
    · subst eG
      obtain ⟨p, pd1, as, x, rs1, q3, q4, ⟨kx, c1, c2, c3, c4, c5⟩, R1⟩ := R
      rw [q4] at ty
      obtain ⟨us, ws, s1, tyu, tyw⟩ := TYS.app ty
      obtain ⟨ov, ws', s2, yo, tyw'⟩ := TYS.cons tyw
      have ul : us.length = n := (TYS.len _ _ tyu).trans c4
      have xk : tOK t.1 x := K x (by rw [q4]; exact List.mem_append_right _ List.mem_cons_self)
      rw [c1] at xk yo
      have kxl := tOK.k xk
      obtain ⟨p1, p2, p3, p4, _⟩ := mem_in Ac kxl c2
      have st' : st = us ++ (ov :: (ws' ++ rest)) := by rw [est, s1, s2, List.append_assoc]; rfl
      have hs' : st[n]?.getD 0 = ov := by
        rw [st', List.getElem?_append_right (by omega), ul, Nat.sub_self]
        rfl
      have ln : n + 1 ≤ st.length := by
        rw [st', List.length_append, List.length_cons]
        omega
      refine ac_13 (D := d + 2) Ac M W o (by omega) (G0.mt h9) hH (by omega) hfl cm4 hl ms4 n6 ln oa (m1 := p.1) (by rw [q3]; rfl) p3 ?_
      rw [hs']
      rcases vOK_obj yo with h | ⟨o1, w1, w2, w3, w4⟩
      · exact Or.inl h
      · obtain ⟨i, hi⟩ := (vw_iff Ac (hc o1 w2 w3)).mp w4
        obtain ⟨d1, e1, _⟩ := dyn_m Ac (fun m hm => (PM m hm).1) i _ (hc o1 w2 w3) hi c2
        obtain ⟨g1, g2, g3, g4, g5⟩ := mem_in Ac (hc o1 w2 w3) e1
        exact Or.inr ⟨o1, d1, w1, w2, w3, by rw [p3]; exact e1, g1, (G0.2.2.2.1 d1 g1).2 g4⟩
    · exact ac_15 (d := d + 4) M W o
    · exact ac_16 (d := d + 4) M W o
    · subst eG
      obtain ⟨t2, st1, rs1, q1, q2, t1, st2, q3, ⟨vl, lf16⟩, r1, r2, r3⟩ := R
      rw [q2, r3] at ty
      obtain ⟨v, seg1, s1, y1, ty1⟩ := TYS.cons ty
      have st' : st = v :: (seg1 ++ rest) := by rw [est, s1]; rfl
      rw [st', List.length_cons] at stl
      rw [st'] at M ⊢
      exact ac_17 (d := d + 4) M W o (by omega) hfl lf16
    · subst eG
      obtain ⟨t2, st1, rs1, q1, q2, t1, st2, x, rs2, q3, q4, ⟨kx, fm2, w, c1, c2, c3, c4⟩, r1, r2, r3⟩ := R
      have xk : tOK t.1 x := K x (by rw [q2, q4]; exact List.mem_cons_of_mem _ List.mem_cons_self)
      rw [q2, q4, r3] at ty
      obtain ⟨v, seg1, s1, y1, ty1⟩ := TYS.cons ty
      obtain ⟨ov, seg2, s2, y2, ty2⟩ := TYS.cons ty1
      rw [c1] at xk y2
      have kxl := tOK.k xk
      obtain ⟨p1, p2, p3, p4, _⟩ := mem_in Ac kxl c2
      have st' : st = v :: ov :: (seg2 ++ rest) := by rw [est, s1, s2]; rfl
      rw [st', List.length_cons, List.length_cons] at stl
      rw [st'] at M ⊢
      refine ac_18 (d := d + 4) M W o (by omega) G0.1.1 hn hH (by omega) ?_
      rcases vOK_obj y2 with h | ⟨o1, w1, w2, w3, w4⟩
      · exact Or.inl h
      · exact Or.inr ⟨o1, w1, w2, w3, by rw [c3]; exact num_lt2 Ac (hc o1 w2 w3) p1 p4 (mem_vw Ac (hc o1 w2 w3) kxl w4 c2)⟩
    · subst eG
      obtain ⟨t1, st1, rs1, q1, q2, r1, r2, r3⟩ := R
      rw [q2, r3] at ty
      obtain ⟨v, seg1, s1, y1, ty1⟩ := TYS.cons ty
      have st' : st = v :: (seg1 ++ rest) := by rw [est, s1]; rfl
      rw [st', List.length_cons] at stl
      rw [st'] at M ⊢
      rcases o with o | o | o | o | o
      · rw [jr_20 o, q1] at hj
        dsimp only at hj
        by_cases g : fitT E.1 E.2.1 t1.1 j.2.2.2.2.2.1.2 = true
        · rw [if_pos g] at hj
          have r20 := P.r20 fm im hkr ej o
          obtain ⟨j2, l2, hj2, _, _, _, J2⟩ := P.step fm im hkr ej
          rw [← hE, jr_20 o, q1] at hj2
          dsimp only at hj2
          rw [if_pos g] at hj2
          have ejp := (Prod.mk.inj (Option.some.inj hj2)).1
          have vv := J2.2.2.1 (j.2.2.2.2.2.1.1, j.2.2.2.2.2.1.2, j.2.2.2.1, j.2.2.2.2.1) (by rw [← ejp]; exact List.mem_append_right _ (List.mem_singleton.mpr rfl))
          exact ac_20 (d := d + 4) M W o (by omega) hfl vv.2.1 r20
        · rw [if_neg g] at hj; cases hj
      · obtain ⟨x, x1, x2, x3, x4, _⟩ := P.jump fm im hkr (Or.inl o)
        exact ac_21 (d := d + 4) M W o (by omega) x2 x3
      · exact ac_24 (d := d + 4) M W o (by omega) hs
      · exact ac_25 (d := d + 4) M W o
      · exact ac_28 (d := d + 3) M W o.1 o.2 (by omega) hfl
    · rcases o with o | o | o | o | o | o | o
      · exact ac_1 (d := d + 4) M W o hfl
      · exact ac_2 (d := d + 4) M W o
      · exact ac_19 (d := d + 4) M W o
      · obtain ⟨x, x1, x2, x3, x4, _⟩ := P.jump fm im hkr (Or.inr (Or.inl o))
        exact ac_22 (d := d + 4) M W o x2 x3
      · obtain ⟨x, x1, x2, x3, x4, _⟩ := P.jump fm im hkr (Or.inr (Or.inr o))
        exact ac_23 (d := d + 4) M W o x2 x3
      · exact ac_26 (d := d + 4) M W o
      · exact ac_27 (d := d + 4) M W o
end MJB50
