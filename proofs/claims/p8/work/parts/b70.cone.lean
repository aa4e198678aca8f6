/-! ===== the class's RUN: one order ===== -/
def CIn (T : TT) (k0 q : Nat) (t : PT) (rs : List RcM) (z : PB) (tr : Bool) (cs : Nat → Nat) (wm cm : Nat) (A : AMS) (s : mjSt3) : Prop := CRn T t.1 (pfC T t rs z tr k0 cs) wm cm (pcO (pfC T t rs z tr k0 cs) A) A s ∧ CPH T t.1 q s ∧ CPC T t rs z tr k0 q cs s ∧ AOK T t rs z tr k0 wm cm A ∧ A.2.2.2.2.1 ≤ 41
/-- the instruction at pc -/
def INS (q : Nat) (s : mjSt3) (pc sz : Nat) (x : Ins) : Prop := (s.1 (q + 25) pc = x.1 ∧ s.1 (q + 26) pc = x.2.1 ∧ s.1 (q + 27) pc = x.2.2) ∧ pc < sz ∧ sz ≤ 3000 ∧ s.1 (q + 24) 3 = nI sz
/-- the next instruction; a STEP -/
def pcN (s : mjSt3) (pc : Nat) : mjSt3 := uI s 82 (upd (s.1 82) 4 (nI pc))
def stN (s : mjSt3) (n : Nat) : mjSt3 := uI s 82 (upd (s.1 82) 12 (nI n))
section MJB70
variable {T : TT} {d N k0 kb wm cm pc k q sz : Nat} {L : List CD} {pf : Nat → Nat → Nat} {t : PT} {rs : List RcM} {z : PB} {tr : Bool} {H : HEAP} {r : Row} {j : JS} {l : List Ins} {f : FRM} {fs : List FRM} {st : List Int32} {sc : SCL} {s s' : mjSt3} {cs : Nat → Nat} {A : AMS} {x : Ins}
theorem CPC.run (C : CPC T t rs z tr k0 q cs s) (hq : isP q) (o : oCn s s') : CPC T t rs z tr k0 q cs s' := by
  have hq' : q = 2 ∨ q = 30 := hq
  exact C.cg (fun h hh => funext fun y => o.1 h y (fun e => by have : 79 ≤ h ∧ h ≤ 90 := e; omega))
theorem INS.run (h : INS q s pc sz x) (hq : isP q) (o : oCn s s') : INS q s' pc sz x := by
  have hq' : q = 2 ∨ q = 30 := hq
  have e : ∀ h, q + 24 ≤ h ∧ h ≤ q + 27 → s'.1 h = s.1 h := fun h hh => funext fun y => o.1 h y (fun e => by have : 79 ≤ h ∧ h ≤ 90 := e; omega)
  obtain ⟨⟨a1, a2, a3⟩, a4, a5, a6⟩ := h
  exact ⟨⟨by rw [e (q + 25) (by omega)]; exact a1, by rw [e (q + 26) (by omega)]; exact a2, by rw [e (q + 27) (by omega)]; exact a3⟩, a4, a5, by rw [e (q + 24) (by omega)]; exact a6⟩
theorem CRn.tick (M : CRn T L pf wm cm pc (H, f :: fs, k, st, sc) s) : CRn T L pf wm cm pc (H, f :: fs, k, st, aTick sc true) (stN s (sc.2.2.2.1 + 1)) := by
  obtain ⟨z1, g1⟩ : ∃ z, z = stN s (sc.2.2.2.1 + 1) := ⟨_, rfl⟩
  rw [← g1]
  unfold stN at g1
  have rr : ∀ h, ¬ h = 82 → z1.1 h = s.1 h := fun h e => by rw [g1]; exact uI_ne _ _ _ _ e
  have v82 : ∀ j, z1.1 82 j = if j = 12 then nI (sc.2.2.2.1 + 1) else s.1 82 j := fun j => by rw [g1, uI_same, upd_g]
  have n : ∀ j, ¬ j = 12 → z1.1 82 j = s.1 82 j := fun j hj => by rw [v82, if_neg hj]
  obtain ⟨⟨⟨a1, a2, a3, a4⟩, ⟨a5, a6, a7⟩, ⟨a8, a9, a10⟩, ⟨a11, a12⟩, a13⟩, hH, hF, hT⟩ := M
  refine ⟨⟨⟨by rw [n 8 (by omega)]; exact a1, by rw [n 9 (by omega)]; exact a2, by rw [n 10 (by omega)]; exact a3, by rw [n 11 (by omega)]; exact a4⟩, ⟨by rw [v82, if_pos rfl]; rfl, by rw [rr 83 (by decide)]; exact a6, by rw [n 13 (by omega)]; exact a7⟩, ⟨by rw [rr 79 (by decide)]; exact a8, by rw [rr 79 (by decide)]; exact a9, by rw [rr 83 (by decide)]; exact a10⟩, ⟨by rw [rr 79 (by decide)]; exact a11, by rw [n 7 (by omega)]; exact a12⟩, fun i h1 h2 => by rw [rr 90 (by decide)]; exact a13 i h1 h2⟩, hH.keep (fun x hx => rr x (by omega)), FRc.keep (fun x hx => rr x (by omega)) _ hF, fun g gs hg => ?_⟩
  obtain ⟨c1, c2, c3⟩ := hT g gs hg
  exact ⟨by rw [n 4 (by omega)]; exact c1, by rw [n 6 (by omega)]; exact c2, STc.low _ (fun j _ => by rw [rr 89 (by decide)]) c3⟩
theorem oCn_pc : oCn s (pcN s pc) := oCn.wr (by omega)
theorem oCn_st {n : Nat} : oCn s (stN s n) := oCn.wr (by omega)
/-- an order of the class -/
theorem one_c (P : PRX T N k0 t rs kb z tr) (wm4 : wm ≤ 4000) (cm4 : cm ≤ 40) (h384 : ∀ c, fldT T t.1 c ≤ 384) (I : CIn T k0 q t rs z tr cs wm cm (H, f :: fs, k, st, sc) s) (ph : sc.2.2.2.2.1 = 1) (hs : sc.2.1 < 100000000) (hkr : (osM rs z f.1)[k]? = some r) : (costs r = false ∧ CIn T k0 q t rs z tr cs wm cm (aOne T t rs z tr k0 wm cm (H, f :: fs, k, st, sc)) s) ∨ ∃ x pc sz, INS q s pc sz x ∧ s.1 82 4 = nI pc ∧ ((x.1 < 10 ∧ costs r = false ∧ ∃ s', mjF (d + 6) 78 [.ref 82, .int x.1, .int x.2.1, .int x.2.2] (mjW0 (pcN s (pc + 1))) = some (none, mjW0 s') ∧ oCn s s' ∧ CIn T k0 q t rs z tr cs wm cm (aOne T t rs z tr k0 wm cm (H, f :: fs, k, st, sc)) s') ∨ ((¬ x.1 < 10) ∧ costs r = true ∧ ∃ s', (x.1 < 17 → mjF (d + 6) 87 [.ref 82, .int x.1, .int x.2.1, .int x.2.2] (mjW0 (stN (pcN s (pc + 1)) (sc.2.2.2.1 + 1))) = some (none, mjW0 s')) ∧ (¬ x.1 < 17 → mjF (d + 6) 85 [.ref 82, .int x.1, .int x.2.2] (mjW0 (stN (pcN s (pc + 1)) (sc.2.2.2.1 + 1))) = some (none, mjW0 s')) ∧ oCn s s' ∧ CIn T k0 q t rs z tr cs wm cm (aOne T t rs z tr k0 wm cm (H, f :: fs, k, st, sc)) s')) := by
  obtain ⟨M, C, Cc, hA, hm⟩ := I
  have hq : isP q := C.1.1.1
  obtain ⟨j, l, seg, rest, ej, F, hk, ty, est, sl, fm, im⟩ := AOK.info P hA ph
  obtain ⟨sz, sz3, hsz, G⟩ := id Cc
  obtain ⟨j', l1, hj, hcl, hle, hln⟩ := (G f.1 fm im).2.1 k r j l hkr ej
  have epc : pfC T t rs z tr k0 cs f.1 k = cs f.1 + l.length := by unfold pfC; rw [lnJ_of ej]
  have epc' : pfC T t rs z tr k0 cs f.1 (k + 1) = cs f.1 + l.length + l1.length := by unfold pfC; rw [hln]; omega
  have M0 : CRn T t.1 (pfC T t rs z tr k0 cs) wm cm (cs f.1 + l.length) (H, f :: fs, k, st, sc) s := by rw [← epc]; exact M
  have h4 : s.1 82 4 = nI (cs f.1 + l.length) := (M0.2.2.2 f fs rfl).1
  have ord : aOrd rs z (H, f :: fs, k, st, sc) = r := by
    show ((osM rs z f.1)[k]?).getD oOver = r
    rw [hkr]
    rfl
  have eone : aOne T t rs z tr k0 wm cm (H, f :: fs, k, st, sc) = aStep T t.1 (EMx T t tr k0 f.1) j (i0T t f.1) wm cm r (H, f :: fs, k + 1, st, aTick sc (costs r)) := by
    show aStep T t.1 (EMx T t tr k0 f.1) (jX T t rs z tr k0 f.1 k) (i0T t f.1) wm cm (aOrd rs z (H, f :: fs, k, st, sc)) (H, f :: fs, k + 1, st, aTick sc (costs (aOrd rs z (H, f :: fs, k, st, sc)))) = _
    rw [jX_of ej, ord]
  have hA2 := hA.one P wm4 ph
  have hl : (f :: fs).length ≤ 40 := Nat.le_trans hA.2.2.1 cm4
  have hm' : sc.1 ≤ 41 := hm
  have sc2 := aStep_sc (T := T) (L := t.1) (E := EMx T t tr k0 f.1) (j := j) (i0 := i0T t f.1) (wm := wm) (cm := cm) (r := r) (H := H) (k := k + 1) (st := st) (sc := aTick sc (costs r)) hm (show sc.2.2.2.2.1 ≤ 3 by omega) hl
  rw [← eone] at sc2
  obtain ⟨s1, g1⟩ : ∃ y, y = pcN s (cs f.1 + l.length + l1.length) := ⟨_, rfl⟩
  have M1 : CRn T t.1 (pfC T t rs z tr k0 cs) wm cm (pfC T t rs z tr k0 cs f.1 (k + 1)) (H, f :: fs, k + 1, st, sc) s1 := by rw [epc', g1]; exact M0.pcs _
  have o1 : oCn s s1 := by rw [g1]; exact oCn_pc
  have fin : ∀ s', CRn T t.1 (pfC T t rs z tr k0 cs) wm cm (pcO (pfC T t rs z tr k0 cs) (aOne T t rs z tr k0 wm cm (H, f :: fs, k, st, sc))) (aOne T t rs z tr k0 wm cm (H, f :: fs, k, st, sc)) s' → oCn s s' → CIn T k0 q t rs z tr cs wm cm (aOne T t rs z tr k0 wm cm (H, f :: fs, k, st, sc)) s' := fun s' h o => ⟨h, C.run o, Cc.run hq o, hA2, sc2.1⟩
  have ins : ∀ x, l1 = [x] → INS q s (cs f.1 + l.length) sz x := by
    intro x hx
    rw [hx] at hcl hle
    exact ⟨hcl 0 x rfl, by rw [List.length_singleton] at hle; omega, sz3, hsz⟩
  cases hc : costs r with
  | false =>
    have et : aTick sc false = sc := rfl
    have g := x_wk (d := d) P (C.run o1) (Cc.run hq o1) hA ph wm4 cm4 (show sc.1 < 100 by omega) hs h384 M1 hkr ej hj
    rw [hc, et] at eone
    rw [← eone] at g
    rcases g with ⟨a1, a2, a3⟩ | ⟨x, a1, ⟨b1, b2', s', b3, b4, b5⟩ | ⟨_, _, b2', _⟩ | ⟨_, _, b2', _⟩⟩
    · refine Or.inl ⟨rfl, fin s ?_ offG.rf⟩
      rw [a3]
      show CRn T t.1 (pfC T t rs z tr k0 cs) wm cm (pfC T t rs z tr k0 cs f.1 (k + 1)) (H, f :: fs, k + 1, st, sc) s
      rw [epc', a1]
      exact M0
    · refine Or.inr ⟨x, cs f.1 + l.length, sz, ins x a1, h4, Or.inl ⟨b1, rfl, s', ?_, offG.tr o1 b4, fin s' b5 (offG.tr o1 b4)⟩⟩
      rw [g1, a1] at b3
      exact b3
    · rw [hc] at b2'; cases b2'
    · rw [hc] at b2'; cases b2'
  | true =>
    obtain ⟨s2, g2⟩ : ∃ y, y = stN s1 (sc.2.2.2.1 + 1) := ⟨_, rfl⟩
    have M2 : CRn T t.1 (pfC T t rs z tr k0 cs) wm cm (pfC T t rs z tr k0 cs f.1 (k + 1)) (H, f :: fs, k + 1, st, aTick sc true) s2 := by rw [g2]; exact M1.tick
    have o2 : oCn s s2 := offG.tr o1 (by rw [g2]; exact oCn_st)
    have hA' : AOK T t rs z tr k0 wm cm (H, f :: fs, k, st, aTick sc true) := hA
    have g := x_wk (d := d) P (C.run o2) (Cc.run hq o2) hA' (show (aTick sc true).2.2.2.2.1 = 1 from ph) wm4 cm4 (show (aTick sc true).1 < 100 by show sc.1 < 100; omega) (show (aTick sc true).2.1 < 100000000 from hs) h384 M2 hkr ej hj
    rw [hc] at eone
    rw [← eone] at g
    rcases g with ⟨_, a2, _⟩ | ⟨x, a1, ⟨_, b2', _⟩ | ⟨b0, b1, b2', s', b3, b4, b5⟩ | ⟨b0, b1, b2', s', b3, b4, b5⟩⟩
    · rw [hc] at a2; cases a2
    · rw [hc] at b2'; cases b2'
    · refine Or.inr ⟨x, cs f.1 + l.length, sz, ins x a1, h4, Or.inr ⟨b0, rfl, s', fun _ => ?_, fun n => absurd b1 n, offG.tr o2 b4, fin s' b5 (offG.tr o2 b4)⟩⟩
      rw [g2, g1, a1] at b3
      exact b3
    · refine Or.inr ⟨x, cs f.1 + l.length, sz, ins x a1, h4, Or.inr ⟨b1, rfl, s', fun n => absurd n b0, fun _ => ?_, offG.tr o2 b4, fin s' b5 (offG.tr o2 b4)⟩⟩
      rw [g2, g1, a1] at b3
      exact b3
/-- the end of a BLOCK -/
theorem end_c (P : PRX T N k0 t rs kb z tr) (wm4 : wm ≤ 4000) (cm4 : cm ≤ 40) (I : CIn T k0 q t rs z tr cs wm cm (H, f :: fs, k, st, sc) s) (ph : sc.2.2.2.2.1 = 1) (hkr : (osM rs z f.1)[k]? = none) : ∃ pc sz s1 s', INS q s pc sz (0, 0, -1) ∧ INS q s1 (pc + 1) sz (9, 0, -1) ∧ s.1 82 4 = nI pc ∧ mjF (d + 6) 78 [.ref 82, .int 0, .int 0, .int (-1)] (mjW0 (pcN s (pc + 1))) = some (none, mjW0 s1) ∧ s1.1 82 4 = nI (pc + 1) ∧ s1.1 82 8 = 1 ∧ s1.2.2 82 3 = q + 24 ∧ mjF (d + 6) 78 [.ref 82, .int 9, .int 0, .int (-1)] (mjW0 (pcN s1 (pc + 1 + 1))) = some (none, mjW0 s') ∧ oCn s s' ∧ CIn T k0 q t rs z tr cs wm cm (aOne T t rs z tr k0 wm cm (H, f :: fs, k, st, sc)) s' := by
  obtain ⟨M, C, Cc, hA, hm⟩ := I
  have hq : isP q := C.1.1.1
  obtain ⟨j, l, seg, rest, ej, F, hk, ty, est, sl, fm, im⟩ := AOK.info P hA ph
  have kl : (osM rs z f.1).length ≤ k := List.getElem?_eq_none_iff.mp hkr
  obtain ⟨sz, sz3, hsz, G⟩ := id Cc
  have ej' : jrun (EMx T t tr k0 f.1) (osM rs z f.1) (jmT T t.1 f.1) = some (j, l) := by
    rw [List.take_of_length_le kl] at ej
    exact ej
  obtain ⟨hcl, hle⟩ := (G f.1 fm im).2.2 j l ej'
  have epc : pfC T t rs z tr k0 cs f.1 k = cs f.1 + l.length := by unfold pfC; rw [lnJ_of ej]
  have M0 : CRn T t.1 (pfC T t rs z tr k0 cs) wm cm (cs f.1 + l.length) (H, f :: fs, k + 1, st, sc) s := by rw [← epc]; exact M
  have h4 : s.1 82 4 = nI (cs f.1 + l.length) := (M0.2.2.2 f fs rfl).1
  have ord : aOrd rs z (H, f :: fs, k, st, sc) = oOver := by
    show ((osM rs z f.1)[k]?).getD oOver = oOver
    rw [hkr]
    rfl
  have eone : aOne T t rs z tr k0 wm cm (H, f :: fs, k, st, sc) = aRet (H, f :: fs, k + 1, st, sc) f fs 0 := by
    show aStep T t.1 (EMx T t tr k0 f.1) (jX T t rs z tr k0 f.1 k) (i0T t f.1) wm cm (aOrd rs z (H, f :: fs, k, st, sc)) (H, f :: fs, k + 1, st, aTick sc (costs (aOrd rs z (H, f :: fs, k, st, sc)))) = _
    rw [ord, as_28 (r := oOver) rfl, if_neg (show ¬ (oOver.2.2.1 = 1) by decide)]
    rfl
  have hA2 := hA.one P wm4 ph
  have hl : (f :: fs).length ≤ 40 := Nat.le_trans hA.2.2.1 cm4
  have fl1 : (f :: fs).length = fs.length + 1 := rfl
  have sc2 := aRet_sc (H := H) (k := k + 1) (f := f) (fs := fs) (st := st) (sc := sc) 0 (show sc.2.2.2.2.1 ≤ 3 by omega)
  rw [eone] at hA2
  rw [eone]
  have i1 : INS q s (cs f.1 + l.length) sz (0, 0, -1) := ⟨hcl 0 _ rfl, by omega, sz3, hsz⟩
  have i2 : INS q s (cs f.1 + l.length + 1) sz (9, 0, -1) := ⟨hcl 1 _ rfl, by omega, sz3, hsz⟩
  obtain ⟨s1, a1, a2, a3⟩ := i_push (d := d + 4) (v := 0) (p := -1) (M0.pcs (cs f.1 + l.length + 1)) (by omega)
  obtain ⟨s2, b1, b2', b3⟩ := i_ret (d := d + 2) (a := 0) (p := -1) (a3.pcs (cs f.1 + l.length + 1 + 1)) (by omega) (by omega)
  have o1 : oCn s s1 := offG.tr oCn_pc a2
  have o2 : oCn s s2 := offG.tr o1 (offG.tr oCn_pc b2')
  have p8 : s1.1 82 8 = nI sc.2.2.2.2.1 := a3.1.1.1
  refine ⟨cs f.1 + l.length, sz, s1, s2, i1, i2.run hq o1, h4, a1, (a3.2.2.2 f fs rfl).1, by rw [p8, ph]; rfl, (C.run o1).2.2, b1, o2, b3, C.run o2, Cc.run hq o2, hA2, by rw [sc2.1]; exact hm⟩
end MJB70
