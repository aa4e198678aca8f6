/-! ===== a RUN's values keep their TYPES: every order ===== -/
section MJB32
variable {T : TT} {N k0 kb wm cm m k : Nat} {t : PT} {rs : List RcM} {z : PB} {tr : Bool} {H : HEAP} {r : Row} {j : JS} {l : List Ins} {f : FRM} {fs : List FRM} {st : List Int32} {sc : SCL}
theorem EMx_1 : (EMx T t tr k0 m).1 = T ∧ (EMx T t tr k0 m).2.1 = t.1 := EmT_1
theorem EMx_m (h : ¬ m = 384) : (EMx T t tr k0 m).2.2.2.2.1 = some (hmM t.1 m) ∧ (EMx T t tr k0 m).2.2.2.2.2.1 = tyM T t.1 m := by
  unfold EMx EmT
  rw [if_neg h]
  exact ⟨rfl, rfl⟩
theorem EMx_main (h : m = 384) : (EMx T t tr k0 m).2.2.2.2.1 = none ∧ (EMx T t tr k0 m).2.2.2.2.2.1 = 0 := by
  unfold EMx EmT
  rw [if_pos h]
  exact ⟨rfl, rfl⟩
/-- an OBJECT of a KIND's CLASS has that CLASS's MEMBERS -/
theorem mem_vw {L : List CD} (Ac : ACY T N L) {c kk d : Nat} {w : Int64} {isM : Bool} (hc : c < L.length) (hk : kk < L.length) (v : (vwT (nmL L) (abT T L) c kk).isSome = true) (h : memT T L kk w isM = some d) : (vwT (nmL L) (abT T L) c (hmM L d)).isSome = true := by
  obtain ⟨_, _, _, _, v2⟩ := mem_in Ac hk h
  obtain ⟨i, hi⟩ := (vw_iff Ac hc).mp v
  obtain ⟨i2, hi2⟩ := (vw_iff Ac hk).mp v2
  refine (vw_iff Ac hc).mpr ⟨i + i2, ?_⟩
  rw [upI_add, hi]
  exact hi2
theorem bs_ge (T : TT) (L : List CD) (H : HEAP) : ∀ o, 2 * o ≤ bsH T L H o
  | 0 => Nat.le_refl _
  | o + 1 => by
    have := bs_ge T L H o
    show 2 * (o + 1) ≤ bsH T L H o + (2 + nmL L (H.2 (o + 1)).1 + fldT T L (H.2 (o + 1)).1)
    omega
theorem aCall_eq {L : List CD} {n d' kk : Nat} {p : Int32} {gs : List FRM} : aCall T L cm n d' p (H, gs, kk, st, sc) fs = if st[n]?.getD 0 = 0 then aFail (H, gs, kk, st, sc) 1 p else if fs.length = cm then aFail (H, gs, kk, st, sc) 5 p else match memT T L (H.2 (nN (st[n]?.getD 0))).1 (nkM T L d') true with
    | none => (H, gs, kk, st, sc)
    | some d => (H, (d, nN (st[n]?.getD 0), -1, (fun i => if i < n then st[n - 1 - i]?.getD 0 else 0), kk) :: fs, 0, st.drop (n + 1), (if sc.1 < fs.length + 1 then fs.length + 1 else sc.1), sc.2) := rfl
theorem snd_step (P : PRX T N k0 t rs kb z tr) (hw : wm ≤ 4000) (hA : AOK T t rs z tr k0 wm cm (H, f :: fs, k, st, sc)) (ph : sc.2.2.2.2.1 = 1) (ej : jrun (EMx T t tr k0 f.1) ((osM rs z f.1).take k) (jmT T t.1 f.1) = some (j, l)) (hr : r = ((osM rs z f.1)[k]?).getD oOver) : AOK T t rs z tr k0 wm cm (aStep T t.1 (EMx T t tr k0 f.1) j (i0T t f.1) wm cm r (H, f :: fs, k + 1, st, sc)) := by
  have Ac := P.1.1
  have PM := P.1.2.1
  have m384 := P.2.1
  obtain ⟨hH0, hb0, hl0, hrun, _⟩ := hA
  have hH : HOK T t.1 H := hH0
  have hb : bsH T t.1 H H.1 ≤ wm := hb0
  have hl : (f :: fs).length ≤ cm := hl0
  have hc : ∀ o, 1 ≤ o → o ≤ H.1 → (H.2 o).1 < t.1.length := fun o o1 o2 => (hH o o1 o2).1
  have n2 : H.1 ≤ 2000 := by
    have := bs_ge T t.1 H H.1
    have hb' : bsH T t.1 H H.1 ≤ wm := hb
    omega
  obtain ⟨f0, fs0, e0, F0, hk0, j0, l0, seg, rest, ej0, ty00, est, S0⟩ := hrun ph
  have F : FOK T t rs z tr k0 H f0 := F0
  have hk : k ≤ (osM rs z f0.1).length := hk0
  have ty : TYS T t.1 H seg (jRS j0) := ty00
  have S : SUS T t rs z tr k0 H fs0 f0.1 f0.2.2.2.2 rest := S0
  have ef : f = f0 := (List.cons.inj e0).1
  have efs : fs = fs0 := (List.cons.inj e0).2
  rw [← ef] at F hk ej0 S
  rw [← efs] at S
  have est' : st = seg ++ rest := est
  have ejj : j0 = j := (Prod.mk.inj (Option.some.inj (ej0.symm.trans ej))).1
  rw [ejj] at ty
  obtain ⟨fm, im⟩ := F.mt m384
  have hk' : k ≤ (osM rs z f.1).length := hk
  cases hkr : (osM rs z f.1)[k]? with
  | none =>
    have kl : (osM rs z f.1).length ≤ k := List.getElem?_eq_none_iff.mp hkr
    have er : r = oOver := by rw [hr, hkr]; rfl
    have e28 : r.1 = 28 := by rw [er]; rfl
    obtain ⟨jx, lx, x1, x2⟩ := P.at0 fm im (k := k) hk' (by
      rw [List.take_of_length_le kl]
      exact (P.1.2.2 f.1 fm im).1.2.1)
    have ex : jx = j := (Prod.mk.inj (Option.some.inj (x1.symm.trans ej))).1
    rw [← ex, x2] at ty
    rw [as_28 e28, if_neg (by rw [er]; decide)]
    rw [TYS.nil ty, List.nil_append] at est'
    rw [est']
    exact AOK.ret hH hb hl ph S (fun _ => vOK.zero)
  | some r0 =>
    have er : r0 = r := by rw [hr, hkr]; rfl
    rw [er] at hkr
    obtain ⟨j', l1, hj, ej', ok, J, J'⟩ := P.step fm im hkr ej
    have kl := (List.getElem?_eq_some_iff.mp hkr).1
    obtain ⟨E, hE⟩ : ∃ E, E = EMx T t tr k0 f.1 := ⟨_, rfl⟩
    have E1 : E.1 = T := by rw [hE]; exact EMx_1.1
    have E2 : E.2.1 = t.1 := by rw [hE]; exact EMx_1.2
    rw [← hE] at hj
    rw [← hE]
    obtain ⟨G, hG⟩ : ∃ G, G = fdG ((osM rs z f.1).take k) [] := ⟨_, rfl⟩
    rw [← hG] at ok J
    obtain ⟨R, K, V⟩ := J
    have fin : ∀ (H' : HEAP) (f' : FRM) (seg' : List Int32) (sc' : SCL), sc'.2.2.2.2.1 = 1 → HOK T t.1 H' → bsH T t.1 H' H'.1 ≤ wm → FOK T t rs z tr k0 H' f' → f'.1 = f.1 → f'.2.2.2.2 = f.2.2.2.2 → TYS T t.1 H' seg' (jRS j') → HX H H' → AOK T t rs z tr k0 wm cm (H', f' :: fs, k + 1, seg' ++ rest, sc') := by
      intro H' f' seg' sc' q0 q1 q2 q3 q4 q5 q6 q7
      exact ⟨q1, q2, hl, fun _ => RUNOK.adv (f := f) (H := H) (by omega) ej' q3 q4 q5 q6 q7 S, fun h => absurd q0 h⟩
    have same : jRS j' = jRS j → aStep T t.1 E j (i0T t f.1) wm cm r (H, f :: fs, k + 1, st, sc) = (H, f :: fs, k + 1, st, sc) → AOK T t rs z tr k0 wm cm (aStep T t.1 E j (i0T t f.1) wm cm r (H, f :: fs, k + 1, st, sc)) := by
      intro e1 e2
      rw [e2, est']
      exact fin H f seg sc ph hH hb F rfl rfl (by rw [e1]; exact ty) HX.rf
    have push : ∀ (x : Nat) (v : Int32), jRS j' = x :: jRS j → vOK T t.1 H x v → AOK T t rs z tr k0 wm cm (aSt (H, f :: fs, k + 1, st, sc) (v :: st)) := by
      intro x v e1 e2
      show AOK T t rs z tr k0 wm cm (H, f :: fs, k + 1, v :: st, sc)
      rw [est']
      exact fin H f (v :: seg) sc ph hH hb F rfl rfl (by rw [e1]; exact ⟨e2, ty⟩) HX.rf
    have goto : ∀ x, x ≤ (osM rs z f.1).length → (∃ jx lx, jrun (EMx T t tr k0 f.1) ((osM rs z f.1).take x) (jmT T t.1 f.1) = some (jx, lx) ∧ jRS jx = []) → AOK T t rs z tr k0 wm cm (H, f :: fs, x, rest, sc) := by
      intro x hx ⟨jx, lx, x1, x2⟩
      refine ⟨hH, hb, hl, fun _ => ?_, fun h => absurd ph h⟩
      have := RUNOK.adv (f := f) (f' := f) (fs := fs) (H := H) (H' := H) (seg' := []) (rest := rest) (sc := sc) hx x1 F rfl rfl (by rw [x2]; trivial) HX.rf S
      exact this
    rcases ok with o | ⟨o, G', eG⟩ | ⟨o, G', eG⟩ | ⟨o, n, G', n6, ob, eG⟩ | ⟨o, n, i, w, G', eG, hi, n6, oa⟩ | ⟨o, n, G', n6, oa, eG⟩ | ⟨o, eG⟩ | ⟨o, eG⟩ | ⟨o, eG⟩ | ⟨o, eG⟩ | ⟨o, eG⟩ | ⟨o, eG⟩
    · rcases o with o | o | o | o | o
      · rw [as_3 o]
        rw [jr_3 o] at hj
        exact push 0 _ (by rw [← (Prod.mk.inj (Option.some.inj hj)).1]; rfl) trivial
      · rw [as_4 o]
        rw [jr_4 o] at hj
        exact push 1 _ (by rw [← (Prod.mk.inj (Option.some.inj hj)).1]; rfl) rfl
      · rw [as_5 o]
        rw [jr_5 o] at hj
        rcases F.1 with ⟨f1, _⟩ | ⟨f1, f2, f3, f4, f5⟩
        · have hn : E.2.2.2.2.1 = none := by rw [hE]; exact (EMx_main f1).1
          rw [hn] at hj
          cases hj
        · have n384 : ¬ f.1 = 384 := by omega
          have hn : E.2.2.2.2.1 = some (hmM t.1 f.1) := by rw [hE]; exact (EMx_m n384).1
          rw [hn] at hj
          dsimp only at hj
          refine push (own (nmL E.2.1) (hmM t.1 f.1) + 2) _ (by rw [← (Prod.mk.inj (Option.some.inj hj)).1]; rfl) (Or.inr ⟨f.2.1, f3, f4, rfl, ?_⟩)
          rw [E2, own_ck Ac.1 (PM f.1 f1).2.2]
          exact f5
      · rw [as_6 o]
        rw [jr_6 o] at hj
        cases hv : vsK j.2.2.1 r.2.2.2.2 with
        | none => rw [hv] at hj; cases hj
        | some e =>
          rw [hv] at hj
          dsimp only at hj
          obtain ⟨v1, v2, v3⟩ := V.1 e (List.mem_of_find?_eq_some hv)
          have ev : varJ r j = e.2.2.1 := by unfold varJ; rw [hv]
          refine push e.2.1 _ (by rw [← (Prod.mk.inj (Option.some.inj hj)).1]; rfl) ?_
          rw [ev, ← v1]
          exact F.2 _ v2
      · rw [as_7 o]
        rw [jr_7 o] at hj
        cases hv : kdE E r.2.2.1 with
        | none => rw [hv] at hj; cases hj
        | some kd =>
          rw [hv] at hj
          dsimp only at hj ⊢
          have hh : ∀ c, E.2.2.2.2.1 = some c → c < E.2.1.length := by
            intro c hc'
            by_cases n384 : f.1 = 384
            · rw [hE, (EMx_main n384).1] at hc'; cases hc'
            · rw [hE, (EMx_m n384).1] at hc'
              have : hmM t.1 f.1 = c := Option.some.inj hc'
              rw [E2, ← this]
              exact (PM f.1 (isMT_lt im n384).1).2.2
          have vk := kdE_c (N := N) (by rw [E1, E2]; exact Ac.1) hh hv
          rw [E2] at vk
          have ck := vk.cl Ac.1
          by_cases g : wm < bsH T t.1 H H.1 + szO T t.1 (cK kd)
          · rw [if_pos g]; exact AOK.fail hH hb
          · rw [if_neg g]
            have self : f.2.1 ≤ H.1 := by
              rcases F.1 with ⟨_, f1⟩ | ⟨_, _, _, f4, _⟩
              · omega
              · exact f4
            show AOK T t rs z tr k0 wm cm (addO H (cK kd) (fun i => hereO T t.1 H f.1 f.2.1 (oK kd i)), f :: fs, k + 1, nI (H.1 + 1) :: st, sc)
            rw [est']
            refine fin _ f (nI (H.1 + 1) :: seg) sc ph (hH.add ck (fun i => here_lt hH self)) ?_ (F.ext HX.add) rfl rfl ?_ HX.add
            · show bsH T t.1 (addO H (cK kd) (fun i => hereO T t.1 H f.1 f.2.1 (oK kd i))) H.1 + szO T t.1 (if H.1 + 1 = H.1 + 1 then (cK kd, (fun i => hereO T t.1 H f.1 f.2.1 (oK kd i)), fun _ => 0) else H.2 (H.1 + 1)).1 ≤ wm
              rw [if_pos rfl, bs_same (H := H) (fun o o1 o2 => HX.add.2 o o1 o2) H.1 (Nat.le_refl _)]
              show bsH T t.1 H H.1 + szO T t.1 (cK kd) ≤ wm
              omega
            · rw [← (Prod.mk.inj (Option.some.inj hj)).1]
              refine ⟨Or.inr ⟨H.1 + 1, by omega, Nat.le_refl _, rfl, ?_⟩, TYS.ext HX.add _ _ ty⟩
              show (vwT (nmL t.1) (abT T t.1) (if H.1 + 1 = H.1 + 1 then (cK kd, (fun i => hereO T t.1 H f.1 f.2.1 (oK kd i)), fun _ => 0) else H.2 (H.1 + 1)).1 (cK kd)).isSome = true
              rw [if_pos rfl]
              exact (vw_iff Ac ck).mpr ⟨0, rfl⟩
    · subst eG
      obtain ⟨t2, st1, rs1, q1, q2, t1, st2, rs2, q3, q4, R2⟩ := R
      rw [q2, q4] at ty
      obtain ⟨b, seg1, s1, y1, ty1⟩ := TYS.cons ty
      obtain ⟨a, seg2, s2, y2, ty2⟩ := TYS.cons ty1
      rw [jr_9 o, q1, q3] at hj
      dsimp only at hj
      rw [as_9 o, est', s1, s2]
      by_cases g : (if r.2.2.1 = 257 ∨ r.2.2.1 = 258 then (t1.1 = 0 ↔ t2.1 = 0) else (t1.1 = 0 ∧ t2.1 = 0))
      · rw [if_pos g] at hj
        have ers : jRS j' = 0 :: rs2 := by
          rw [← (Prod.mk.inj (Option.some.inj hj)).1]
          show 0 :: (jRS j).drop 2 = 0 :: rs2
          rw [q2, q4]
          rfl
        show AOK T t rs z tr k0 wm cm (match two2 r.2.2.1 a b with
          | none => aFail (H, f :: fs, k + 1, (b :: a :: seg2) ++ rest, sc) 2 r.2.1
          | some v => aSt (H, f :: fs, k + 1, (b :: a :: seg2) ++ rest, sc) (v :: (seg2 ++ rest)))
        cases two2 r.2.2.1 a b with
        | none => exact AOK.fail hH hb
        | some v => exact fin H f (v :: seg2) sc ph hH hb F rfl rfl (by rw [ers]; exact ⟨trivial, ty2⟩) HX.rf
      · rw [if_neg g] at hj; cases hj
    · subst eG
      obtain ⟨t1, st1, rs1, q1, q2, R1⟩ := R
      have tk : tOK t.1 t1.1 := K t1.1 (by rw [q2]; exact List.mem_cons_self)
      have ty0 := ty
      rw [q2] at ty
      obtain ⟨v, seg1, s1, y1, ty1⟩ := TYS.cons ty
      rcases o with o | o | o | o
      · rw [jr_8 o, q1] at hj
        dsimp only at hj
        by_cases g : t1.1 = 0
        · rw [if_pos g] at hj
          rw [as_8 o, est', s1]
          show AOK T t rs z tr k0 wm cm (H, f :: fs, k + 1, (-v :: seg1) ++ rest, sc)
          refine fin H f (-v :: seg1) sc ph hH hb F rfl rfl ?_ HX.rf
          rw [← (Prod.mk.inj (Option.some.inj hj)).1, q2, g]
          exact ⟨trivial, ty1⟩
        · rw [if_neg g] at hj; cases hj
      · rw [jr_10 o, q1] at hj
        dsimp only at hj
        cases hp : prtE E t1 r.2.2.2.2 false with
        | none => rw [hp] at hj; cases hj
        | some p =>
          rw [hp] at hj
          dsimp only at hj
          obtain ⟨kk, k1, k2, k3⟩ := prt_c hp (by rw [E2]; exact tk)
          rw [E2] at k2
          rw [E1, E2] at k3
          have esl : slotJ E r j = numM T t.1 p.1 := by
            unfold slotJ
            rw [q1]
            dsimp only
            rw [hp]
            dsimp only
            rw [E1, E2]
          obtain ⟨p1, p2, p3, p4, _⟩ := mem_in Ac k2 k3
          rw [as_10 o, est', s1, esl]
          show AOK T t rs z tr k0 wm cm (if v = 0 then aFail (H, f :: fs, k + 1, (v :: seg1) ++ rest, sc) 1 r.2.1 else (H, f :: fs, k + 1, ((H.2 (nN v)).2.2 (numM T t.1 p.1) :: seg1) ++ rest, sc))
          by_cases v0 : v = 0
          · rw [if_pos v0]; exact AOK.fail hH hb
          · rw [if_neg v0]
            rw [k1] at y1
            rcases y1 with y | ⟨o1, w1, w2, w3, w4⟩
            · exact absurd y v0
            · refine fin H f _ sc ph hH hb F rfl rfl ?_ HX.rf
              rw [← (Prod.mk.inj (Option.some.inj hj)).1]
              show TYS T t.1 H _ (sty (nmL E.2.1) (tyM E.1 E.2.1 p.1) p.2 :: (jRS j).drop 1)
              rw [q2, E1, E2]
              refine ⟨vOK.cls (x := tyM T t.1 p.1) ?_ (ct_sty Ac.1 (tyM_v Ac.1 p2)).symm, ty1⟩
              rw [w3, nN_nI (by omega)]
              exact (hH o1 w1 w2).2.2 p.1 p1 p4 (mem_vw Ac (hc o1 w1 w2) k2 w4 k3)
      · rw [jr_14 o, q1] at hj
        dsimp only at hj
        cases hv : kdE E r.2.2.1 with
        | none => rw [hv] at hj; cases hj
        | some kd =>
          rw [hv] at hj
          dsimp only at hj
          by_cases g0 : t1.1 = 0
          · rw [if_pos g0] at hj; cases hj
          · rw [if_neg g0] at hj
            rw [as_14 o, hv, est', s1]
            show AOK T t rs z tr k0 wm cm (if asO T t.1 H f.1 f.2.1 v kd = true then (H, f :: fs, k + 1, (v :: seg1) ++ rest, sc) else aFail (H, f :: fs, k + 1, (v :: seg1) ++ rest, sc) 3 r.2.1)
            by_cases ga : asO T t.1 H f.1 f.2.1 v kd = true
            · rw [if_pos ga]
              refine fin H f (v :: seg1) sc ph hH hb F rfl rfl ?_ HX.rf
              rw [← (Prod.mk.inj (Option.some.inj hj)).1]
              show TYS T t.1 H _ ((kd + 2) :: (jRS j).drop 1)
              rw [q2]
              refine ⟨?_, ty1⟩
              by_cases v0 : v = 0
              · exact Or.inl v0
              · have ob : ∃ o1, 1 ≤ o1 ∧ o1 ≤ H.1 ∧ v = nI o1 := by
                  obtain ⟨x1, al⟩ := t1
                  match x1, y1, g0 with
                  | 0, _, g0 => exact absurd rfl g0
                  | 1, y1, _ => exact absurd y1 v0
                  | kk + 2, y1, _ =>
                    rcases y1 with y | ⟨o1, w1, w2, w3, _⟩
                    · exact absurd y v0
                    · exact ⟨o1, w1, w2, w3⟩
                obtain ⟨o1, w1, w2, w3⟩ := ob
                refine Or.inr ⟨o1, w1, w2, w3, ?_⟩
                unfold asO at ga
                rw [decide_eq_false v0, Bool.false_or, Bool.and_eq_true] at ga
                have g1 := ga.1
                rw [w3, nN_nI (by omega)] at g1
                exact g1
            · rw [if_neg ga]; exact AOK.fail hH hb
      · rw [jr_30 o, q1] at hj
        exact same (by rw [← (Prod.mk.inj (Option.some.inj hj)).1]; rfl) (as_n (by rw [o]; decide))
    · subst eG
      obtain ⟨t1, st1, rs1, q1, q2, R1⟩ := R
      rw [jr_11 o, q1] at hj
      dsimp only at hj
      cases hp : prtE E t1 r.2.2.2.2 true with
      | none => rw [hp] at hj; cases hj
      | some p =>
        rw [hp] at hj
        dsimp only at hj
        by_cases g : nI (psM E.2.1 p.1).length = r.2.2.2.1
        · rw [if_pos g] at hj
          exact same (by rw [← (Prod.mk.inj (Option.some.inj hj)).1]; rfl) (as_n (by rw [o]; decide))
        · rw [if_neg g] at hj; cases hj
    · subst eG
      obtain ⟨t1, st1, rs1, q1, q2, p, pd1, as, x, rs2, q3, q4, _, R2⟩ := R
      rw [jr_12 o, q1, q3] at hj
      dsimp only at hj
      by_cases g : fitT E.1 E.2.1 t1.1 (sty (nmL E.2.1) (pyT E.1 E.2.1 p.1 r.2.2.1.toNatClampNeg) p.2) = true
      · rw [if_pos g] at hj
        exact same (by rw [← (Prod.mk.inj (Option.some.inj hj)).1]; rfl) (as_n (by rw [o]; decide))
      · rw [if_neg g] at hj; cases hj
    · subst eG
      obtain ⟨p, pd1, as, x, rs1, q3, q4, ⟨kx, c1, c2, c3, c4, c5⟩, R1⟩ := R
      have ty0 := ty
      rw [q4] at ty
      obtain ⟨us, ws, s1, tyu, tyw⟩ := TYS.app ty
      obtain ⟨ov, ws', s2, yo, tyw'⟩ := TYS.cons tyw
      have ul : us.length = n := (TYS.len _ _ tyu).trans c4
      have xk : tOK t.1 x := K x (by rw [q4]; exact List.mem_append_right _ List.mem_cons_self)
      rw [c1] at xk yo
      have kxl := tOK.k xk
      obtain ⟨p1, p2, p3, p4, _⟩ := mem_in Ac kxl c2
      rw [jr_13 o, q3] at hj
      dsimp only at hj
      have ers : jRS j' = sty (nmL t.1) (tyM T t.1 p.1) p.2 :: rs1 := by
        rw [← (Prod.mk.inj (Option.some.inj hj)).1]
        show sty (nmL E.2.1) (tyM E.1 E.2.1 p.1) p.2 :: (jRS j).drop ((psM E.2.1 p.1).length + 1) = _
        have ed : (jRS j).drop ((psM E.2.1 p.1).length + 1) = rs1 := by
          rw [E2, q4, c3, ← c4, ← List.drop_drop, List.drop_left']
          · rfl
          · rfl
        rw [ed, E1, E2]
      have st' : st = us ++ (ov :: (ws' ++ rest)) := by rw [est', s1, s2, List.append_assoc]; rfl
      have hs : st[n]?.getD 0 = ov := by
        rw [st', List.getElem?_append_right (by omega), ul, Nat.sub_self]
        rfl
      have hd : st.drop (n + 1) = ws' ++ rest := by
        rw [st', ← List.drop_drop, List.drop_left' ul]
        rfl
      have en : nN r.2.2.1 = n := by rw [oa, nN_nI (by omega)]
      have ep : (j.2.1.headD (0, 0)).1 = p.1 := by rw [q3]; rfl
      rw [as_13 o, en, ep, aCall_eq, hs]
      by_cases o0 : ov = 0
      · rw [if_pos o0]; exact AOK.fail hH hb
      rw [if_neg o0]
      by_cases lc : (f :: fs).length = cm
      · rw [if_pos lc]; exact AOK.fail hH hb
      rw [if_neg lc]
      rcases yo with y | ⟨o1, w1, w2, w3, w4⟩
      · exact absurd y o0
      have on : nN ov = o1 := by rw [w3, nN_nI (by omega)]
      obtain ⟨i, hi⟩ := (vw_iff Ac (hc o1 w1 w2)).mp w4
      obtain ⟨d, d1, sm1, sm2, sm3⟩ := dyn_m Ac (fun m hm => (PM m hm).1) i _ (hc o1 w1 w2) hi c2
      obtain ⟨g1, g2, g3, g4, g5⟩ := mem_in Ac (hc o1 w1 w2) d1
      rw [on, p3, d1]
      dsimp only
      have d384 : ¬ d = 384 := by omega
      refine ⟨hH, hb, ?_, fun _ => ⟨_, f :: fs, rfl, ⟨Or.inr ⟨g1, g4, w1, w2, g5⟩, fun v hv => ?_⟩, Nat.zero_le _, jmT T t.1 d, [], [], st.drop (n + 1), rfl, trivial, rfl, ?_⟩, fun h => absurd ph h⟩
      · have hl' : (f :: fs).length ≤ cm := hl
        show (f :: fs).length + 1 ≤ cm
        omega
      · show vOK T t.1 H (vtM T t.1 (EMx T t tr k0 d) (osM rs z d) d v) (if v < n then st[n - 1 - v]?.getD 0 else 0)
        by_cases vn : v < n
        · rw [if_pos vn]
          obtain ⟨y, zz, y1, y2, y3⟩ := c5 v vn
          obtain ⟨uv, u1, u2⟩ := TYS.at tyu y1
          have yk : tOK t.1 y := K y (by rw [q4]; exact List.mem_append_left _ (List.mem_of_getElem? y1))
          have es : st[n - 1 - v]?.getD 0 = uv := by
            rw [st', List.getElem?_append_left (by omega), u1]
            rfl
          rw [es]
          have np : npT t.1 d = n := by
            unfold npT
            rw [if_neg d384, sm2, c3]
          unfold vtM
          rw [if_pos (by omega)]
          exact ((u2.fit Ac hc yk y2).cls y3).cls (sm3 v (by omega)).symm
        · rw [if_neg vn]; exact vOK.zero
      · refine ⟨g1, F, (by show k + 1 ≤ _; omega), j', l ++ l1, _, rs1, ws', rest, ej', ers, ?_, tyw', hd, S⟩
        rw [ct_sty Ac.1 (tyM_v Ac.1 p2)]
        exact sm1.symm
    · rw [jr_15 o] at hj
      cases hv : vsK j.2.2.1 r.2.2.2.2 with
      | none => rw [hv] at hj; cases hj
      | some e =>
        rw [hv] at hj
        exact same (by rw [← (Prod.mk.inj (Option.some.inj hj)).1]; rfl) (as_n (by rw [o]; decide))
    · subst eG
      obtain ⟨t1, st1, rs1, q1, q2, _⟩ := R
      rw [jr_16 o, q1] at hj
      dsimp only at hj
      cases hp : prtE E t1 r.2.2.2.2 false with
      | none => rw [hp] at hj; cases hj
      | some p =>
        rw [hp] at hj
        exact same (by rw [← (Prod.mk.inj (Option.some.inj hj)).1]; rfl) (as_n (by rw [o]; decide))
    · subst eG
      obtain ⟨t2, st1, rs1, q1, q2, t1, st2, q3, ⟨vl, lf16⟩, r1, r2, r3⟩ := R
      have tk : tOK t.1 t2.1 := K t2.1 (by rw [q2]; exact List.mem_cons_self)
      rw [q2, r3] at ty
      obtain ⟨v, seg1, s1, y1, ty1⟩ := TYS.cons ty
      rw [jr_17 o, q1, q3] at hj
      dsimp only at hj
      by_cases g : fitT E.1 E.2.1 t2.1 t1.1 = true
      · rw [if_pos g] at hj
        have ers : jRS j' = [] := by
          rw [← (Prod.mk.inj (Option.some.inj hj)).1]
          show (jRS j).drop 1 = []
          rw [q2, r3]
          rfl
        rw [E1, E2] at g
        rw [as_17 o, est', s1, TYS.nil ty1]
        show AOK T t rs z tr k0 wm cm (H, setV f j.2.2.2.2.2.2.1 v :: fs, k + 1, [] ++ rest, sc)
        refine fin H _ [] sc ph hH hb ⟨F.1, fun u hu => ?_⟩ rfl rfl (by rw [ers]; trivial) HX.rf
        show vOK T t.1 H (vtX T t rs z tr k0 f.1 u) (if u = j.2.2.2.2.2.2.1 then v else f.2.2.2.1 u)
        by_cases e : u = j.2.2.2.2.2.2.1
        · rw [if_pos e, e, vl]; exact y1.fit Ac hc tk g
        · rw [if_neg e]; exact F.2 u hu
      · rw [if_neg g] at hj; cases hj
    · subst eG
      obtain ⟨t2, st1, rs1, q1, q2, t1, st2, x, rs2, q3, q4, ⟨kx, fm2, w, c1, c2, c3, c4⟩, r1, r2, r3⟩ := R
      have tk : tOK t.1 t2.1 := K t2.1 (by rw [q2]; exact List.mem_cons_self)
      have xk : tOK t.1 x := K x (by rw [q2, q4]; exact List.mem_cons_of_mem _ List.mem_cons_self)
      rw [q2, q4, r3] at ty
      obtain ⟨v, seg1, s1, y1, ty1⟩ := TYS.cons ty
      obtain ⟨ov, seg2, s2, y2, ty2⟩ := TYS.cons ty1
      rw [c1] at xk y2
      have kxl := tOK.k xk
      obtain ⟨p1, p2, p3, p4, _⟩ := mem_in Ac kxl c2
      rw [jr_18 o, q1, q3] at hj
      dsimp only at hj
      by_cases g : fitT E.1 E.2.1 t2.1 t1.1 = true
      · rw [if_pos g] at hj
        have ers : jRS j' = [] := by
          rw [← (Prod.mk.inj (Option.some.inj hj)).1]
          show (jRS j).drop 2 = []
          rw [q2, q4, r3]
          rfl
        rw [E1, E2] at g
        rw [as_18 o, est', s1, s2, TYS.nil ty2]
        show AOK T t rs z tr k0 wm cm (if ov = 0 then aFail (H, f :: fs, k + 1, [v, ov] ++ rest, sc) 1 r.2.2.2.1 else (setF H (nN ov) j.2.2.2.2.2.2.1 v, f :: fs, k + 1, [] ++ rest, sc))
        by_cases o0 : ov = 0
        · rw [if_pos o0]; exact AOK.fail hH hb
        · rw [if_neg o0]
          rcases y2 with y | ⟨o1, w1, w2, w3, w4⟩
          · exact absurd y o0
          · rw [w3, nN_nI (by omega), c3]
            refine fin _ f [] sc ph (hH.set Ac (fun m hm => (PM m hm).2.2) w1 w2 p1 p4 (mem_vw Ac (hc o1 w1 w2) kxl w4 c2) ((y1.fit Ac hc tk g).cls c4)) ?_ (F.ext HX.set) rfl rfl (by rw [ers]; trivial) HX.set
            have : bsH T t.1 (setF H o1 (numM T t.1 fm2) v) H.1 = bsH T t.1 H H.1 := bs_same (H := H) (fun o o1 o2 => HX.set.2 o o1 o2) H.1 (Nat.le_refl _)
            show bsH T t.1 (setF H o1 (numM T t.1 fm2) v) H.1 ≤ wm
            rw [this]
            exact hb
      · rw [if_neg g] at hj; cases hj
    · subst eG
      obtain ⟨t1, st1, rs1, q1, q2, r1, r2, r3⟩ := R
      have tk : tOK t.1 t1.1 := K t1.1 (by rw [q2]; exact List.mem_cons_self)
      rw [q2, r3] at ty
      obtain ⟨v, seg1, s1, y1, ty1⟩ := TYS.cons ty
      have est2 : st = v :: rest := by rw [est', s1, TYS.nil ty1]; rfl
      have ed : (jRS j).drop 1 = [] := by rw [q2, r3]; rfl
      rcases o with o | o | o | o | o
      · rw [jr_20 o, q1] at hj
        dsimp only at hj
        by_cases g : fitT E.1 E.2.1 t1.1 j.2.2.2.2.2.1.2 = true
        · rw [if_pos g] at hj
          have ejp := (Prod.mk.inj (Option.some.inj hj)).1
          have ers : jRS j' = [] := by rw [← ejp]; exact ed
          have vv := J'.2.2.1 (j.2.2.2.2.2.1.1, j.2.2.2.2.2.1.2, j.2.2.2.1, j.2.2.2.2.1) (by rw [← ejp]; exact List.mem_append_right _ (List.mem_singleton.mpr rfl))
          rw [E1, E2] at g
          rw [as_20 o, est2]
          show AOK T t rs z tr k0 wm cm (H, setV f j.2.2.2.1 v :: fs, k + 1, [] ++ rest, sc)
          refine fin H _ [] sc ph hH hb ⟨F.1, fun u hu => ?_⟩ rfl rfl (by rw [ers]; trivial) HX.rf
          show vOK T t.1 H (vtX T t rs z tr k0 f.1 u) (if u = j.2.2.2.1 then v else f.2.2.2.1 u)
          by_cases e : u = j.2.2.2.1
          · rw [if_pos e, e, show vtX T t rs z tr k0 f.1 j.2.2.2.1 = j.2.2.2.2.2.1.2 from vv.1]; exact y1.fit Ac hc tk g
          · rw [if_neg e]; exact F.2 u hu
        · rw [if_neg g] at hj; cases hj
      · rw [jr_21 o, q1] at hj
        dsimp only at hj
        by_cases g : t1.1 = 0
        · rw [if_pos g] at hj
          have ers : jRS j' = [] := by rw [← (Prod.mk.inj (Option.some.inj hj)).1]; exact ed
          obtain ⟨x, x1, x2, x3, x4, _⟩ := P.jump fm im hkr (Or.inl o)
          rw [as_21 o, est2]
          show AOK T t rs z tr k0 wm cm (aSt (if v = 0 then aKs (H, f :: fs, k + 1, v :: rest, sc) (nN r.2.2.1 - i0T t f.1) else (H, f :: fs, k + 1, v :: rest, sc)) rest)
          by_cases v0 : v = 0
          · rw [if_pos v0, x3]
            exact goto x x1 x4
          · rw [if_neg v0]
            exact fin H f [] sc ph hH hb F rfl rfl (by rw [ers]; trivial) HX.rf
        · rw [if_neg g] at hj; cases hj
      · rw [jr_24 o, q1] at hj
        dsimp only at hj
        by_cases g : t1.1 = 0
        · rw [if_pos g] at hj
          have ers : jRS j' = [] := by rw [← (Prod.mk.inj (Option.some.inj hj)).1]; exact ed
          rw [as_24 o, est2]
          exact fin H f [] _ ph hH hb F rfl rfl (by rw [ers]; trivial) HX.rf
        · rw [if_neg g] at hj; cases hj
      · rw [jr_25 o, q1] at hj
        have ers : jRS j' = [] := by rw [← (Prod.mk.inj (Option.some.inj hj)).1]; exact ed
        rw [as_25 o, est2]
        exact fin H f [] sc ph hH hb F rfl rfl (by rw [ers]; trivial) HX.rf
      · rw [jr_28 o.1, q1] at hj
        dsimp only at hj
        by_cases g : fitT E.1 E.2.1 t1.1 E.2.2.2.2.2.1 = true
        · rw [if_pos g] at hj
          rw [E1, E2] at g
          rw [as_28 o.1, if_pos o.2, est2]
          refine AOK.ret (rest := rest) hH hb hl ph S (fun hm => ?_)
          have n384 : ¬ f.1 = 384 := by omega
          have er2 : E.2.2.2.2.2.1 = tyM T t.1 f.1 := by rw [hE]; exact (EMx_m n384).2
          rw [er2] at g
          exact y1.fit Ac hc tk g
        · rw [if_neg g] at hj; cases hj
    · subst eG
      rcases o with o | o | o | o | o | o | o
      · rw [jr_1 o] at hj
        have ers : jRS j' = jRS j := by rw [← (Prod.mk.inj (Option.some.inj hj)).1]
        rw [as_1 o, est']
        exact fin H _ seg sc ph hH hb ⟨F.1, F.2⟩ rfl rfl (by rw [ers]; exact ty) HX.rf
      · rw [jr_2 o] at hj
        exact same (by rw [← (Prod.mk.inj (Option.some.inj hj)).1]) (as_n (by rw [o]; decide))
      · rw [jr_19 o] at hj
        cases ht : tyE E r.2.2.1 with
        | none => rw [ht] at hj; cases hj
        | some x =>
          rw [ht] at hj
          dsimp only at hj
          by_cases g : vsK j.2.2.1 r.2.2.2.2 = none
          · rw [if_pos g] at hj
            exact same (by rw [← (Prod.mk.inj (Option.some.inj hj)).1]; rfl) (as_n (by rw [o]; decide))
          · rw [if_neg g] at hj; cases hj
      · obtain ⟨x, x1, x2, x3, x4, _⟩ := P.jump fm im hkr (Or.inr (Or.inl o))
        obtain ⟨r1, r2, r3⟩ := R
        rw [r3] at ty
        rw [as_22 (Or.inl o), est', TYS.nil ty, x3]
        exact goto x x1 x4
      · obtain ⟨x, x1, x2, x3, x4, _⟩ := P.jump fm im hkr (Or.inr (Or.inr o))
        obtain ⟨r1, r2, r3⟩ := R
        rw [r3] at ty
        rw [as_22 (Or.inr o), est', TYS.nil ty, x3]
        exact goto x x1 x4
      · rw [jr_26 o] at hj
        exact same (by rw [← (Prod.mk.inj (Option.some.inj hj)).1]; rfl) (as_n (by rw [o]; decide))
      · rw [jr_27 o] at hj
        exact same (by rw [← (Prod.mk.inj (Option.some.inj hj)).1]; rfl) (as_n (by rw [o]; decide))
end MJB32
