/-! ===== the class's work on one order is the pure machine's ===== -/
def gWk (T : TT) (L : List CD) (pf : Nat → Nat → Nat) (wm cm : Nat) (A : AMS) (s : mjSt3) (u : mjU) : Prop := ∃ s', u = some (none, mjW0 s') ∧ oCn s s' ∧ CRn T L pf wm cm (pcO pf A) A s'
/-- an order that has no instruction; one that is done at once; one that takes a STEP -/
def gIn (T : TT) (L : List CD) (pf : Nat → Nat → Nat) (wm cm d : Nat) (r : Row) (A0 A : AMS) (s : mjSt3) (l1 : List Ins) : Prop := (l1 = [] ∧ costs r = false ∧ A = A0) ∨ ∃ x, l1 = [x] ∧ ((x.1 < 10 ∧ costs r = false ∧ gWk T L pf wm cm A s (mjF (d + 6) 78 [.ref 82, .int x.1, .int x.2.1, .int x.2.2] (mjW0 s))) ∨ ((¬ x.1 < 10) ∧ x.1 < 17 ∧ costs r = true ∧ gWk T L pf wm cm A s (mjF (d + 6) 87 [.ref 82, .int x.1, .int x.2.1, .int x.2.2] (mjW0 s))) ∨ ((¬ x.1 < 17) ∧ (¬ x.1 < 10) ∧ costs r = true ∧ gWk T L pf wm cm A s (mjF (d + 6) 85 [.ref 82, .int x.1, .int x.2.2] (mjW0 s))))
section MJB65
variable {T : TT} {d N k0 kb wm cm k q : Nat} {L : List CD} {pf : Nat → Nat → Nat} {t : PT} {rs : List RcM} {z : PB} {tr : Bool} {H : HEAP} {r : Row} {j j' : JS} {l l1 : List Ins} {f : FRM} {fs : List FRM} {st : List Int32} {sc : SCL} {s s' : mjSt3} {cs : Nat → Nat} {A A0 : AMS} {x : Ins} {e : List Ins}
theorem gIn.n (h : e = l1) (he : e = []) (c : costs r = false) (ha : A = A0) : gIn T L pf wm cm d r A0 A s l1 := Or.inl ⟨h.symm.trans he, c, ha⟩
theorem gIn.a (h : [x] = l1) (hx : x.1 < 10) (c : costs r = false) (g : gWk T L pf wm cm A s (mjF (d + 6) 78 [.ref 82, .int x.1, .int x.2.1, .int x.2.2] (mjW0 s))) : gIn T L pf wm cm d r A0 A s l1 := Or.inr ⟨x, h.symm, Or.inl ⟨hx, c, g⟩⟩
theorem gIn.b (h : [x] = l1) (hx : ¬ x.1 < 10) (hx2 : x.1 < 17) (c : costs r = true) (g : gWk T L pf wm cm A s (mjF (d + 6) 87 [.ref 82, .int x.1, .int x.2.1, .int x.2.2] (mjW0 s))) : gIn T L pf wm cm d r A0 A s l1 := Or.inr ⟨x, h.symm, Or.inr (Or.inl ⟨hx, hx2, c, g⟩)⟩
theorem gIn.c (h : [x] = l1) (hx : ¬ x.1 < 17) (hx2 : ¬ x.1 < 10) (c : costs r = true) (g : gWk T L pf wm cm A s (mjF (d + 6) 85 [.ref 82, .int x.1, .int x.2.2] (mjW0 s))) : gIn T L pf wm cm d r A0 A s l1 := Or.inr ⟨x, h.symm, Or.inr (Or.inr ⟨hx, hx2, c, g⟩)⟩
theorem kdE_vK (P : PRX T N k0 t rs kb z tr) (F : FOK T t rs z tr k0 H f) {kk : Nat} {a : Int32} (hkd : kdE (EMx T t tr k0 f.1) a = some kk) : vK t.1 kk := by
  have hn := P.1.1.1
  have hh : ∀ c, (EMx T t tr k0 f.1).2.2.2.2.1 = some c → c < t.1.length := by
    intro c hc
    rcases F.1 with ⟨h, _⟩ | ⟨h, _⟩
    · rw [(EMx_main h).1] at hc; cases hc
    · have m384 := P.2.1
      rw [(EMx_m (show ¬ f.1 = 384 by omega)).1] at hc
      rw [← Option.some.inj hc]
      exact (P.1.2.1 f.1 h).2.2
  unfold kdE at hkd
  cases hk : kdT (EMx T t tr k0 f.1).1 (EMx T t tr k0 f.1).2.1 (EMx T t tr k0 f.1).2.2.2.2.1 false ((EMx T t tr k0 f.1).2.2.2.1 a) with
  | none => rw [hk] at hkd; cases hkd
  | some k' =>
    rw [hk] at hkd
    dsimp only at hkd
    rw [EMx_1.1, EMx_1.2] at hk
    have key := (kd_vK hn hh hk).1
    split at hkd
    · have e : k' = kk := Option.some.inj hkd
      rw [e] at key
      exact key
    · cases hkd
theorem opr_17 (op : Int32) : ¬ opr op < 17 ∧ ¬ opr op < 10 := by
  unfold opr
  by_cases h1 : op = 37
  · rw [if_pos h1]; decide
  rw [if_neg h1]
  by_cases h2 : op = 42
  · rw [if_pos h2]; decide
  rw [if_neg h2]
  by_cases h3 : op = 43
  · rw [if_pos h3]; decide
  rw [if_neg h3]
  by_cases h4 : op = 45
  · rw [if_pos h4]; decide
  rw [if_neg h4]
  by_cases h5 : op = 47
  · rw [if_pos h5]; decide
  rw [if_neg h5]
  by_cases h6 : op = 60
  · rw [if_pos h6]; decide
  rw [if_neg h6]
  by_cases h7 : op = 257
  · rw [if_pos h7]; decide
  rw [if_neg h7]; decide
theorem inj2 {α β : Type} {a c : α} {b e : β} (h : some (a, b) = some (c, e)) : b = e := (Prod.mk.inj (Option.some.inj h)).2
theorem x_wk (P : PRX T N k0 t rs kb z tr) (C : CPH T t.1 q s) (Cc : CPC T t rs z tr k0 q cs s) (hA : AOK T t rs z tr k0 wm cm (H, f :: fs, k, st, sc)) (ph : sc.2.2.2.2.1 = 1) (wm4 : wm ≤ 4000) (cm4 : cm ≤ 40) (ms4 : sc.1 < 100) (hs : sc.2.1 < 100000000) (h384 : ∀ c, fldT T t.1 c ≤ 384) (M : CRn T t.1 (pfC T t rs z tr k0 cs) wm cm (pfC T t rs z tr k0 cs f.1 (k + 1)) (H, f :: fs, k + 1, st, sc) s) (hkr : (osM rs z f.1)[k]? = some r) (ej : jrun (EMx T t tr k0 f.1) ((osM rs z f.1).take k) (jmT T t.1 f.1) = some (j, l)) (hj : jrow (evP (EMx T t tr k0 f.1) (psC T t rs z tr k0 cs f.1)) r j = some (j', l1)) : gIn T t.1 (pfC T t rs z tr k0 cs) wm cm d r (H, f :: fs, k + 1, st, sc) (aStep T t.1 (EMx T t tr k0 f.1) j (i0T t f.1) wm cm r (H, f :: fs, k + 1, st, sc)) s l1 := by
  have Ac := P.1.1
  have hn := Ac.1
  have m384 := P.2.1
  obtain ⟨j0, l0, seg, rest, ej0, F, hk, ty0, est, sl, fm, im⟩ := AOK.info P hA ph
  have ejj : j0 = j := (Prod.mk.inj (Option.some.inj (ej0.symm.trans ej))).1
  rw [ejj] at ty0
  have ty : TYS T t.1 H seg (jRS j) := ty0
  have hH : HOK T t.1 H := hA.1
  have hw : bsH T t.1 H H.1 ≤ wm := hA.2.1
  have hl : (f :: fs).length ≤ cm := hA.2.2.1
  have fl1 : (f :: fs).length = fs.length + 1 := rfl
  have hfl : fs.length < 40 := by omega
  have hc : ∀ o, 1 ≤ o → o ≤ H.1 → (H.2 o).1 < t.1.length := fun o o1 o2 => (hH o o1 o2).1
  have B : HBs T t.1 H := ⟨by omega, bs_3 hn H H.1 hc⟩
  have b1 := B.1
  have b2' := B.2
  have FC : FCL T t.1 H f := F.1
  have i5 := P.2.2 f.1 fm im
  have stl : st.length < 5000 := by omega
  have kl := (List.getElem?_eq_some_iff.mp hkr).1
  obtain ⟨_, _, _, _, ok, J, _⟩ := P.step fm im hkr ej
  have hps : ∀ x jx lx, jrun (EMx T t tr k0 f.1) ((osM rs z f.1).take x) (jmT T t.1 f.1) = some (jx, lx) → psC T t rs z tr k0 cs f.1 (i0T t f.1 + x) = pfC T t rs z tr k0 cs f.1 x := fun x jx lx h => psC_of h
  have hst : ∀ x, x < nMem t.1 → mSM t.1 x = true → s.1 (q + 23) x = nI (pfC T t rs z tr k0 cs x 0) := by
    intro x hx hm
    have imx : isMT t.1 x = true := by
      unfold isMT
      rw [decide_eq_true hx, hm]
      exact Bool.or_true _
    obtain ⟨sz, _, _, G⟩ := Cc
    rw [(G x (by omega) imx).1]
    rfl
  obtain ⟨pf, hpf⟩ : ∃ y, y = pfC T t rs z tr k0 cs := ⟨_, rfl⟩
  obtain ⟨ps, hpse⟩ : ∃ y, y = psC T t rs z tr k0 cs f.1 := ⟨_, rfl⟩
  rw [← hpf] at M hps hst
  rw [← hpf]
  rw [← hpse] at hj hps
  obtain ⟨E, hE⟩ : ∃ E, E = EMx T t tr k0 f.1 := ⟨_, rfl⟩
  have E1 : E.1 = T := by rw [hE]; exact EMx_1.1
  have E2 : E.2.1 = t.1 := by rw [hE]; exact EMx_1.2
  have kdv : ∀ kk a, kdE E a = some kk → vK t.1 kk := fun kk a h => kdE_vK P F (by rw [hE] at h; exact h)
  rw [← hE] at hj
  rw [← hE]
  obtain ⟨G, hG⟩ : ∃ G, G = fdG ((osM rs z f.1).take k) [] := ⟨_, rfl⟩
  rw [← hG] at ok J
  obtain ⟨R, K, V⟩ := J
  have jmp : ∀ x, r.2.2.1 = nI (i0T t f.1 + x) → x ≤ (osM rs z f.1).length → r.2.2.1.toNatClampNeg = i0T t f.1 + x := fun x h1 h2 => by rw [h1]; exact nI_clamp (by omega)
  rcases ok with o | ⟨o, G', eG⟩ | ⟨o, G', eG⟩ | ⟨o, n, G', n6, ob, eG⟩ | ⟨o, n, i, w, G', eG, hi, n6, oa⟩ | ⟨o, n, G', n6, oa, eG⟩ | ⟨o, eG⟩ | ⟨o, eG⟩ | ⟨o, eG⟩ | ⟨o, eG⟩ | ⟨o, eG⟩ | ⟨o, eG⟩
  · rcases o with o | o | o | o | o
    · rw [jr_3 o] at hj
      exact gIn.a (inj2 hj) (by dsimp only; decide) (by unfold costs; rw [o]; decide) (by rw [as_3 o]; exact i_push (d := d + 4) M (by omega))
    · rw [jr_4 o] at hj
      exact gIn.a (inj2 hj) (by dsimp only; decide) (by unfold costs; rw [o]; decide) (by rw [as_4 o]; exact i_push (d := d + 4) M (by omega))
    · rw [jr_5 o] at hj
      cases hv : (evP E ps).2.2.2.2.1 with
      | none => rw [hv] at hj; cases hj
      | some c =>
        rw [hv] at hj
        exact gIn.a (inj2 hj) (by dsimp only; decide) (by unfold costs; rw [o]; decide) (by rw [as_5 o]; exact i_self (d := d + 3) M (by omega) hfl)
    · rw [jr_6 o] at hj
      cases hv : vsK j.2.2.1 r.2.2.2.2 with
      | none => rw [hv] at hj; cases hj
      | some e =>
        rw [hv] at hj
        have v1 : varJ r j = e.2.2.1 := by unfold varJ; rw [hv]
        exact gIn.a (inj2 hj) (by dsimp only; decide) (by unfold costs; rw [o]; decide) (by rw [as_6 o, v1]; exact i_load (d := d + 3) M (by omega) hfl (V.1 e (List.mem_of_find?_eq_some hv)).2.1)
    · rw [jr_7 o] at hj
      cases hv : kdE E r.2.2.1 with
      | none => rw [show kdE (evP E ps) r.2.2.1 = kdE E r.2.2.1 from rfl, hv] at hj; cases hj
      | some kd =>
        rw [show kdE (evP E ps) r.2.2.1 = kdE E r.2.2.1 from rfl, hv] at hj
        refine gIn.b (inj2 hj) (by dsimp only; decide) (by dsimp only; decide) (by unfold costs; rw [o]; decide) ?_
        rw [as_7 o, hv]
        dsimp only
        obtain ⟨n1, n2⟩ := x_91 (d := d) hn M C hH hw wm4 FC hfl (by omega) (kdv kd _ hv) h384 r.2.1
        by_cases g : wm < bsH T t.1 H H.1 + szO T t.1 (cK kd)
        · obtain ⟨s', a1, a2, a3⟩ := n1 g
          rw [if_pos g]
          exact ⟨s', by rw [i_new _ a1, bN_s], a2, a3 _⟩
        · obtain ⟨s', a1, a2, a3⟩ := n2 g
          rw [if_neg g]
          exact ⟨s', by rw [i_new _ a1, bN_s], a2, a3⟩
  · subst eG
    obtain ⟨t2, st1, rs1, q1, q2, t1, st2, rs2, q3, q4, R2⟩ := R
    rw [q2, q4] at ty
    obtain ⟨b', seg1, s1, y1, ty1⟩ := TYS.cons ty
    obtain ⟨a', seg2, s2, y2, ty2⟩ := TYS.cons ty1
    have st' : st = b' :: a' :: (seg2 ++ rest) := by rw [est, s1, s2]; rfl
    rw [st', List.length_cons, List.length_cons] at stl
    rw [st'] at M ⊢
    rw [jr_9 o, q1, q3] at hj
    dsimp only at hj
    have el : [((opr r.2.2.1, 0, r.2.1) : Ins)] = l1 := by
      split at hj
      · split at hj
        · exact inj2 hj
        · cases hj
      · split at hj
        · exact inj2 hj
        · cases hj
    refine gIn.c el (opr_17 _).1 (opr_17 _).2 (by unfold costs; rw [o]; decide) ?_
    rw [as_9 o]
    show gWk T t.1 pf wm cm (match two2 r.2.2.1 a' b' with
      | none => aFail (H, f :: fs, k + 1, b' :: a' :: (seg2 ++ rest), sc) 2 r.2.1
      | some v => (H, f :: fs, k + 1, v :: (seg2 ++ rest), sc)) s _
    obtain ⟨s', c1, c2, c3, c4⟩ := i_op (d := d + 2) (op := r.2.2.1) (p := r.2.1) M (by omega)
    cases hv : two2 r.2.2.1 a' b' with
    | none => exact ⟨s', c1, c2, c3 hv _ _ _⟩
    | some v => exact ⟨s', c1, c2, c4 v hv⟩
  · subst eG
    obtain ⟨t1, st1, rs1, q1, q2, R1⟩ := R
    have tk : tOK t.1 t1.1 := K t1.1 (by rw [q2]; exact List.mem_cons_self)
    rw [q2] at ty
    obtain ⟨v, seg1, s1, y1, ty1⟩ := TYS.cons ty
    have st' : st = v :: (seg1 ++ rest) := by rw [est, s1]; rfl
    rw [st', List.length_cons] at stl
    rw [st'] at M ⊢
    rcases o with o | o | o | o
    · rw [jr_8 o, q1] at hj
      dsimp only at hj
      split at hj
      · exact gIn.b (inj2 hj) (by dsimp only; decide) (by dsimp only; decide) (by unfold costs; rw [o]; decide) (by rw [as_8 o]; exact i_neg (d := d + 4) M (show (seg1 ++ rest).length < 5120 by omega))
      · cases hj
    · rw [jr_10 o, q1] at hj
      dsimp only at hj
      cases hp : prtE E t1 r.2.2.2.2 false with
      | none => rw [show prtE (evP E ps) t1 r.2.2.2.2 false = prtE E t1 r.2.2.2.2 false from rfl, hp] at hj; cases hj
      | some p =>
        rw [show prtE (evP E ps) t1 r.2.2.2.2 false = prtE E t1 r.2.2.2.2 false from rfl, hp] at hj
        dsimp only at hj
        obtain ⟨kk, k1, k2, k3⟩ := prt_c hp (by rw [E2]; exact tk)
        rw [E2] at k2
        rw [E1, E2] at k3
        obtain ⟨p1, p2, p3, p4, _⟩ := mem_in Ac k2 k3
        have esl : slotJ E r j = numM T t.1 p.1 := by
          unfold slotJ
          rw [q1]
          dsimp only
          rw [hp]
          dsimp only
          rw [E1, E2]
        have een : numM (evP E ps).1 (evP E ps).2.1 p.1 = numM T t.1 p.1 := by
          show numM E.1 E.2.1 p.1 = _
          rw [E1, E2]
        rw [een] at hj
        rw [k1] at y1
        refine gIn.b (inj2 hj) (by dsimp only; decide) (by dsimp only; decide) (by unfold costs; rw [o]; decide) ?_
        rw [as_10 o, esl]
        obtain ⟨s', c1, c2, c3, c4⟩ := i_get (d := d + 2) (i := numM T t.1 p.1) (p := r.2.1) M B (by omega) (by
          rcases vOK_obj y1 with h | ⟨o1, w1, w2, w3, w4⟩
          · exact Or.inl h
          · exact Or.inr ⟨o1, w1, w2, w3, num_lt2 Ac (hc o1 w2 w3) p1 p4 (mem_vw Ac (hc o1 w2 w3) k2 w4 k3)⟩)
        show gWk T t.1 pf wm cm (if v = 0 then aFail (H, f :: fs, k + 1, v :: (seg1 ++ rest), sc) 1 r.2.1 else (H, f :: fs, k + 1, (H.2 (nN v)).2.2 (numM T t.1 p.1) :: (seg1 ++ rest), sc)) s _
        by_cases g : v = 0
        · rw [if_pos g]; exact ⟨s', c1, c2, c3 g _ _ _⟩
        · rw [if_neg g]; exact ⟨s', c1, c2, c4 g⟩
    · rw [jr_14 o, q1] at hj
      dsimp only at hj
      cases hv : kdE E r.2.2.1 with
      | none => rw [show kdE (evP E ps) r.2.2.1 = kdE E r.2.2.1 from rfl, hv] at hj; cases hj
      | some kd =>
        rw [show kdE (evP E ps) r.2.2.1 = kdE E r.2.2.1 from rfl, hv] at hj
        dsimp only at hj
        by_cases g0 : t1.1 = 0
        · rw [if_pos g0] at hj; cases hj
        · rw [if_neg g0] at hj
          refine gIn.b (inj2 hj) (by dsimp only; decide) (by dsimp only; decide) (by unfold costs; rw [o]; decide) ?_
          obtain ⟨s', c1, c2, c3, c4⟩ := i_as (d := d + 1) (p := r.2.1) hn M C B hH FC hfl (by omega) (kdv kd _ hv) (by
            obtain ⟨x1', al⟩ := t1
            match x1', y1, g0 with
            | 0, _, g0 => exact absurd rfl g0
            | 1, y1, _ => exact Or.inl y1
            | kk + 2, y1, _ =>
              rcases vOK_obj y1 with h | ⟨o1, w1, w2, w3, _⟩
              · exact Or.inl h
              · exact Or.inr ⟨o1, w1, w2, w3⟩)
          rw [as_14 o, hv]
          show gWk T t.1 pf wm cm (if asO T t.1 H f.1 f.2.1 v kd = true then (H, f :: fs, k + 1, v :: (seg1 ++ rest), sc) else aFail (H, f :: fs, k + 1, v :: (seg1 ++ rest), sc) 3 r.2.1) s _
          by_cases g : asO T t.1 H f.1 f.2.1 v kd = true
          · rw [if_pos g]; exact ⟨s', c1, c2, c3 g⟩
          · rw [if_neg g]; exact ⟨s', c1, c2, c4 g _ _ _⟩
    · rw [jr_30 o, q1] at hj
      exact gIn.n (inj2 hj) rfl (by unfold costs; rw [o]; decide) (as_n (by rw [o]; decide))
  · rw [jr_11 o] at hj
    cases hq : j.1 with
    | nil => rw [hq] at hj; cases hj
    | cons a as =>
      rw [hq] at hj
      dsimp only at hj
      split at hj
      · cases hj
      · split at hj
        · exact gIn.n (inj2 hj) rfl (by unfold costs; rw [o]; decide) (as_n (by rw [o]; decide))
        · cases hj
  · rw [jr_12 o] at hj
    split at hj
    · split at hj
      · exact gIn.n (inj2 hj) rfl (by unfold costs; rw [o]; decide) (as_n (by rw [o]; decide))
      · cases hj
    · cases hj
  · subst eG
    obtain ⟨p, pd1, as, x, rs1, q3, q4, ⟨kx, c1, c2, c3, c4, c5⟩, R1⟩ := R
    rw [q4] at ty
    obtain ⟨us, ws, s1, tyu, tyw⟩ := TYS.app ty
    obtain ⟨ov, ws', s2, yo, tyw'⟩ := TYS.cons tyw
    have ul : us.length = n := (TYS.len _ _ tyu).trans c4
    have xk : tOK t.1 x := K x (by rw [q4]; exact List.mem_append_right _ List.mem_cons_self)
    rw [c1] at xk yo
    have kxl := tOK.k xk
    obtain ⟨p1, p2, p3, p4, _⟩ := mem_in Ac kxl c2
    have st' : st = us ++ (ov :: (ws' ++ rest)) := by rw [est, s1, s2, List.append_assoc]; rfl
    have hs' : st[n]?.getD 0 = ov := by
      rw [st', List.getElem?_append_right (by omega), ul, Nat.sub_self]
      rfl
    have ln : n + 1 ≤ st.length := by
      rw [st', List.length_append, List.length_cons]
      omega
    rw [jr_13 o, q3] at hj
    dsimp only at hj
    refine gIn.b (inj2 hj) (by dsimp only; decide) (by dsimp only; decide) (by unfold costs; rw [o]; decide) ?_
    rw [as_13 o, q3]
    have en : nN r.2.2.1 = (psM t.1 p.1).length := by rw [oa, nN_nI (by omega), c3]
    show gWk T t.1 pf wm cm (aCall T t.1 cm (nN r.2.2.1) p.1 r.2.1 (H, f :: fs, k + 1, st, sc) (f :: fs)) s _
    rw [en]
    obtain ⟨s', d1, d2, d3⟩ := x_89 (d := d) (m := p.1) Ac M C B hH hl cm4 ms4 (by omega) p1 (by omega) (by omega) rfl hst (by
      rw [c3, hs']
      rcases vOK_obj yo with h | ⟨o1, w1, w2, w3, w4⟩
      · exact Or.inl h
      · exact Or.inr ⟨o1, w1, w2, w3⟩) r.2.1
    exact ⟨s', by rw [i_call _ d1, bN_s], d2, d3⟩
  · rw [jr_15 o] at hj
    split at hj
    · cases hj
    · exact gIn.n (inj2 hj) rfl (by unfold costs; rw [o]; decide) (as_n (by rw [o]; decide))
  · rw [jr_16 o] at hj
    cases hq : j.1 with
    | nil => rw [hq] at hj; cases hj
    | cons a as =>
      rw [hq] at hj
      dsimp only at hj
      split at hj
      · cases hj
      · exact gIn.n (inj2 hj) rfl (by unfold costs; rw [o]; decide) (as_n (by rw [o]; decide))
  · subst eG
    obtain ⟨t2, st1, rs1, q1, q2, t1, st2, q3, ⟨vl, lf16⟩, r1, r2, r3⟩ := R
    rw [q2, r3] at ty
    obtain ⟨v, seg1, s1, y1, ty1⟩ := TYS.cons ty
    have st' : st = v :: (seg1 ++ rest) := by rw [est, s1]; rfl
    rw [st', List.length_cons] at stl
    rw [st'] at M ⊢
    rw [jr_17 o, q1, q3] at hj
    dsimp only at hj
    split at hj
    · exact gIn.a (inj2 hj) (by dsimp only; decide) (by unfold costs; rw [o]; decide) (by rw [as_17 o]; exact i_store (d := d + 2) M (show (seg1 ++ rest).length < 5120 by omega) hfl lf16)
    · cases hj
  · subst eG
    obtain ⟨t2, st1, rs1, q1, q2, t1, st2, x, rs2, q3, q4, ⟨kx, fm2, w, c1, c2, c3, c4⟩, r1, r2, r3⟩ := R
    have xk : tOK t.1 x := K x (by rw [q2, q4]; exact List.mem_cons_of_mem _ List.mem_cons_self)
    rw [q2, q4, r3] at ty
    obtain ⟨v, seg1, s1, y1, ty1⟩ := TYS.cons ty
    obtain ⟨ov, seg2, s2, y2, ty2⟩ := TYS.cons ty1
    rw [c1] at xk y2
    have kxl := tOK.k xk
    obtain ⟨p1, p2, p3, p4, _⟩ := mem_in Ac kxl c2
    have st' : st = v :: ov :: (seg2 ++ rest) := by rw [est, s1, s2]; rfl
    rw [st', List.length_cons, List.length_cons] at stl
    rw [st'] at M ⊢
    rw [jr_18 o, q1, q3] at hj
    dsimp only at hj
    split at hj
    · refine gIn.a (inj2 hj) (by dsimp only; decide) (by unfold costs; rw [o]; decide) ?_
      obtain ⟨s', e1, e2, e3, e4⟩ := i_put (d := d + 2) (i := j.2.2.2.2.2.2.1) (p := r.2.2.2.1) M B (by omega) (by
        rcases vOK_obj y2 with h | ⟨o1, w1, w2, w3, w4⟩
        · exact Or.inl h
        · exact Or.inr ⟨o1, w1, w2, w3, by rw [c3]; exact num_lt2 Ac (hc o1 w2 w3) p1 p4 (mem_vw Ac (hc o1 w2 w3) kxl w4 c2)⟩)
      rw [as_18 o]
      show gWk T t.1 pf wm cm (if ov = 0 then aFail (H, f :: fs, k + 1, v :: ov :: (seg2 ++ rest), sc) 1 r.2.2.2.1 else (setF H (nN ov) j.2.2.2.2.2.2.1 v, f :: fs, k + 1, seg2 ++ rest, sc)) s _
      by_cases g : ov = 0
      · rw [if_pos g]; exact ⟨s', e1, e2, e3 g _ _ _⟩
      · rw [if_neg g]; exact ⟨s', e1, e2, e4 g⟩
    · cases hj
  · subst eG
    obtain ⟨t1, st1, rs1, q1, q2, r1, r2, r3⟩ := R
    rw [q2, r3] at ty
    obtain ⟨v, seg1, s1, y1, ty1⟩ := TYS.cons ty
    have st' : st = v :: (seg1 ++ rest) := by rw [est, s1]; rfl
    rw [st', List.length_cons] at stl
    rw [st'] at M ⊢
    rcases o with o | o | o | o | o
    · rw [jr_20 o, q1] at hj
      dsimp only at hj
      split at hj
      · obtain ⟨j2, l2, hj2, _, _, _, J2⟩ := P.step fm im hkr ej
        have vv : j.2.2.2.1 < 16 := by
          rw [jr_20 o, q1] at hj2
          dsimp only at hj2
          split at hj2
          · have ejp := (Prod.mk.inj (Option.some.inj hj2)).1
            exact (J2.2.2.1 (j.2.2.2.2.2.1.1, j.2.2.2.2.2.1.2, j.2.2.2.1, j.2.2.2.2.1) (by rw [← ejp]; exact List.mem_append_right _ (List.mem_singleton.mpr rfl))).2.1
          · cases hj2
        exact gIn.a (inj2 hj) (by dsimp only; decide) (by unfold costs; rw [o]; decide) (by rw [as_20 o]; exact i_store (d := d + 2) M (show (seg1 ++ rest).length < 5120 by omega) hfl vv)
      · cases hj
    · obtain ⟨x, x1, x2, x3, ⟨jx, lx, x4, _⟩, _⟩ := P.jump fm im hkr (Or.inl o)
      rw [jr_21 o, q1] at hj
      dsimp only at hj
      split at hj
      · have ep : (evP E ps).2.2.2.2.2.2 r.2.2.1.toNatClampNeg = pf f.1 x := by
          show ps r.2.2.1.toNatClampNeg = _
          rw [jmp x x2 x1]
          exact hps x jx lx x4
        rw [ep] at hj
        refine gIn.a (inj2 hj) (by dsimp only; decide) (by unfold costs; rw [o]; decide) ?_
        obtain ⟨s', e1, e2, e3⟩ := i_jz (d := d + 4) (y := pf f.1 x) (p := -1) M (by omega)
        refine ⟨s', e1, e2, ?_⟩
        rw [as_21 o, x3]
        show CRn T t.1 pf wm cm (pcO pf (aSt (if v = 0 then (H, f :: fs, x, v :: (seg1 ++ rest), sc) else (H, f :: fs, k + 1, v :: (seg1 ++ rest), sc)) (seg1 ++ rest))) (aSt (if v = 0 then (H, f :: fs, x, v :: (seg1 ++ rest), sc) else (H, f :: fs, k + 1, v :: (seg1 ++ rest), sc)) (seg1 ++ rest)) s'
        by_cases g : v = 0
        · rw [if_pos g]
          rw [if_pos g] at e3
          exact e3
        · rw [if_neg g]
          rw [if_neg g] at e3
          exact e3
      · cases hj
    · rw [jr_24 o, q1] at hj
      dsimp only at hj
      split at hj
      · exact gIn.a (inj2 hj) (by dsimp only; decide) (by unfold costs; rw [o]; decide) (by rw [as_24 o]; exact i_say (d := d + 4) M (show (seg1 ++ rest).length < 5120 by omega) hs)
      · cases hj
    · rw [jr_25 o, q1] at hj
      exact gIn.a (inj2 hj) (by dsimp only; decide) (by unfold costs; rw [o]; decide) (by rw [as_25 o]; exact i_pop (d := d + 4) M (show (seg1 ++ rest).length < 5120 by omega))
    · rw [jr_28 o.1, q1] at hj
      dsimp only at hj
      split at hj
      · exact gIn.a (inj2 hj) (by dsimp only; decide) (by unfold costs; rw [o.1]; decide) (by rw [as_28 o.1, if_pos o.2]; exact i_ret (d := d + 2) M (show (seg1 ++ rest).length < 5120 by omega) hfl)
      · cases hj
  · rcases o with o | o | o | o | o | o | o
    · rw [jr_1 o] at hj
      exact gIn.b (inj2 hj) (by dsimp only; decide) (by dsimp only; decide) (by unfold costs; rw [o]; decide) (by rw [as_1 o]; exact i_stmt (d := d + 3) M hfl)
    · rw [jr_2 o] at hj
      exact gIn.b (inj2 hj) (by dsimp only; decide) (by dsimp only; decide) (by unfold costs; rw [o]; decide) (by rw [as_n (Or.inl o)]; exact ⟨s, i_loop (d := d + 5), offG.rf, M⟩)
    · rw [jr_19 o] at hj
      split at hj
      · cases hj
      · split at hj
        · exact gIn.n (inj2 hj) rfl (by unfold costs; rw [o]; decide) (as_n (by rw [o]; decide))
        · cases hj
    · obtain ⟨x, x1, x2, x3, ⟨jx, lx, x4, _⟩, _⟩ := P.jump fm im hkr (Or.inr (Or.inl o))
      rw [jr_22 o] at hj
      have ep : (evP E ps).2.2.2.2.2.2 r.2.2.1.toNatClampNeg = pf f.1 x := by
        show ps r.2.2.1.toNatClampNeg = _
        rw [jmp x x2 x1]
        exact hps x jx lx x4
      rw [ep] at hj
      exact gIn.a (inj2 hj) (by dsimp only; decide) (by unfold costs; rw [o]; decide) (by rw [as_22 (Or.inl o), x3]; exact i_jump (d := d + 5) M)
    · obtain ⟨x, x1, x2, x3, ⟨jx, lx, x4, _⟩, _⟩ := P.jump fm im hkr (Or.inr (Or.inr o))
      rw [jr_23 o] at hj
      have ep : (evP E ps).2.2.2.2.2.2 r.2.2.1.toNatClampNeg = pf f.1 x := by
        show ps r.2.2.1.toNatClampNeg = _
        rw [jmp x x2 x1]
        exact hps x jx lx x4
      rw [ep] at hj
      exact gIn.a (inj2 hj) (by dsimp only; decide) (by unfold costs; rw [o]; decide) (by rw [as_22 (Or.inr o), x3]; exact i_jump (d := d + 5) M)
    · rw [jr_26 o] at hj
      exact gIn.n (inj2 hj) rfl (by unfold costs; rw [o]; decide) (as_n (by rw [o]; decide))
    · rw [jr_27 o] at hj
      exact gIn.n (inj2 hj) rfl (by unfold costs; rw [o]; decide) (as_n (by rw [o]; decide))
end MJB65
