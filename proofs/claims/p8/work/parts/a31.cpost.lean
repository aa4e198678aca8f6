/-! ===== the Coder: MEMBERS of an E, POST ===== -/
def Pt : Nat → PZ → Bool → List Ins → Prop := fun _ _ _ _ => True
section MJA31
variable {E : EV} {d N q c t n e k u v i m o w cs c0 kq nt : Nat} {s s' s0 : mjSt3} {j j0 : JS} {y z : PZ} {p : Nat × Nat} {os : List Row} {rs : List Nat} {l : List Ins} {al isM : Bool}
/-- codeField, in a bad state -/
theorem n_24 (B : BC E.1 N q E.2.1 E.2.2.1 s) (hm : m < nMem E.2.1) (hnt : nt ≤ N) : ∃ s', mjF (d + 2) 24 [.ref 75, .int (nI m), .int (nI nt)] (mjW0 s) = some (none, mjW0 s') ∧ BC E.1 N q E.2.1 E.2.2.1 s' ∧ oC q s s' := by
  have d3 := B.1.2.1.2.2.1
  obtain ⟨y, n', w1, w2, w3, w4, w5⟩ := n_emit (d := d) B 12 (nI (numM E.1 E.2.1 m)) (E.1 nt).2.1
  refine ⟨y, ?_, w3, w4⟩
  rw [e_24]
  unfold f_24 b_24_0
  rw [xg_75_0, xV_58, j_place B.1.1.1.1 B.2.1.1 (Nat.le_refl N) hnt, bI_s, xg_75_0, xV_58, kN0 B (by decide), bI_s, if_pos rfl, xg_75_5, B.1.2.2.2.2.2.2.2, xg_75_4, B.1.2.2.2.2.2.2.1, ymg_5 B.1.pq, wya_19 B.1.pq (by omega), (B.1.1.2.2.2.2.2.1 m hm).1, ycV B.1.pq, w1, bI_s]
/-- codeCall, in a bad state -/
theorem n_23 (B : BC E.1 N q E.2.1 E.2.2.1 s) (hm : m < nMem E.2.1) (hnt : nt + 1 ≤ N) (a : Int32) : ∃ s', mjF (d + 3) 23 [.ref 75, .int (nI m), .int (nI nt), .int a] (mjW0 s) = some (none, mjW0 s') ∧ BC E.1 N q E.2.1 E.2.2.1 s' ∧ oC q s s' := by
  have d3 := B.1.2.1.2.2.1
  have hT := B.1.1.1.1
  obtain ⟨y, w1, w2, w3⟩ := n_23l (d := d + 1) (nt := nt) B hm (by omega) a 0 99999999
  have pre : mjF (d + 3) 23 [.ref 75, .int (nI m), .int (nI nt), .int a] (mjW0 s) = _ := e_23 (d := d + 2)
  unfold f_23 b_23_0 at pre
  rw [xg_75_0, xV_58, nI_1, x_argsAt (tk_b hT B.2.1) (by omega), bI_s, xg_75_4, B.1.2.2.2.2.2.2.1, ymg_6 B.1.pq, wya_20 B.1.pq (by omega)] at pre
  by_cases g : s.1 63 (nt + 1) = s.1 (q + 20) m
  · rw [if_pos g, xg_75_0, xV_58, B.skp, bN_s] at pre
    exact ⟨y, pre.trans w1, w2, w3⟩
  · rw [if_neg g, xg_75_0, xV_58, j_atB hT B.2.1, bN_s] at pre
    exact ⟨s, pre, B, offG.rf⟩
theorem x_176 (C : CB E.1 N q E.2.1 E.2.2.1 s) (hp : okM E p) : b_22_176 (mjF (d + 2)) 75 (nI p.1) (nI p.2) (mjW0 s) = some (some (.int (tyI (sty (nmL E.2.1) (tyM E.1 E.2.1 p.1) p.2))), mjW0 s) := by
  have d3 := C.2.1.2.2.1
  have hm := hp.1
  have tv : vT E.2.1 (tyM E.1 E.2.1 p.1) := ty_v C.hn (fun c hc => by cases hc; exact (C.2.1.2.2.2.2 p.1 hm).2.1)
  have y : s.1 (q + 17) p.1 = tyI (tyM E.1 E.2.1 p.1) := (C.1.2.2.2.2.2.2.2.1 p.1 hm).1
  unfold b_22_176
  rw [xg_75_3, C.2.2.2.2.2.1, xg_75_4, C.2.2.2.2.2.2.1, ymg_3 C.pq, wya_17 C.pq (by omega), y, yV C.pq, x_sty C.hn C.pq C.1.1.2.2.2.2.2.2.1 tv hp.2, bI_s]
theorem st_lt (C : CB E.1 N q E.2.1 E.2.2.1 s) (hp : okM E p) : sty (nmL E.2.1) (tyM E.1 E.2.1 p.1) p.2 < 524290 := by
  have tv : vT E.2.1 (tyM E.1 E.2.1 p.1) := ty_v C.hn (fun c hc => by cases hc; exact (C.2.1.2.2.2.2 p.1 hp.1).2.1)
  exact (tv.sty C.hn hp.2).lt C.hn
/-- the second half of codeMember, in a bad state -/
theorem n_116 (B : BC E.1 N q E.2.1 E.2.2.1 s) (vk : vK E.2.1 k) (hp : okM E p) (hv : vwT (nmL E.2.1) (abT E.1 E.2.1) (cK k) (hmM E.2.1 p.1) = some v) (es : p.2 = stand (nmL E.2.1) v k) (hnt : nt + 1 ≤ N) (isM : Bool) : ∃ s', b_22_116 (mjF (d + 3)) 75 (nI k) (nI nt) (b2 isM) (nI (cK k)) (nI p.1) (mjW0 s) = some (some (.int (tyI (sty (nmL E.2.1) (tyM E.1 E.2.1 p.1) p.2))), mjW0 s') ∧ BC E.1 N q E.2.1 E.2.2.1 s' ∧ oC q s s' := by
  have C := B.1
  have hn := C.hn
  have h16 := hn.1
  have kc := vk.cl hn
  have kl := vk.lt hn
  have vv := (vw_v hn kc hv).1
  have vl := vv.lt hn
  have d3 := C.2.1.2.2.1
  have V : VWS E.1 E.2.1 q s := C.1.2.2.2.1
  have hmc := (C.2.1.2.2.2.2 p.1 hp.1).2.1
  have d31 := hp.1
  unfold b_22_116
  rw [xg_75_0, xV_58, B.skp, bN_s, xg_75_3, C.2.2.2.2.2.1, xg_75_3, C.2.2.2.2.2.1, xg_75_4, C.2.2.2.2.2.2.1, ymg_2 C.pq, wya_16 C.pq (by omega), (C.2.1.2.2.2.2 p.1 hp.1).1, yV C.pq, x_view C.pq (by omega) (by omega), bI_s, V _ (by omega) _ (by omega), if_pos kc, hv, oI_s, yV C.pq, x_stand C.pq C.1.1.2.2.2.2.2.2.1 (by omega) (by omega) (by have := vv.cl hn; omega), bI_s, ← es, b2_i]
  cases isM with
  | true =>
    obtain ⟨y, w1, w2, w3⟩ := n_23 (d := d) B hp.1 hnt (nI p.2)
    refine ⟨y, ?_, w2, w3⟩
    rw [if_pos rfl, xV_75, w1, bN_s, x_176 w2.1 hp]
  | false =>
    obtain ⟨y, w1, w2, w3⟩ := n_24 (d := d + 1) B hp.1 (show nt ≤ N by omega)
    refine ⟨y, ?_, w2, w3⟩
    rw [if_neg (by decide), xV_75, w1, bN_s, x_176 w2.1 hp]
theorem fld_row (x : Int32) (nm : Int64) (h : prtE E (t, al) nm false = some p) : jrow E (10, x, 0, 0, nm) (jE j0 t al) = some (jE j0 (sty (nmL E.2.1) (tyM E.1 E.2.1 p.1) p.2) false, [(12, nI (numM E.1 E.2.1 p.1), x)]) := by
  show (match prtE E (t, al) nm false with
    | none => none
    | some p => some (jE j0 (sty (nmL E.2.1) (tyM E.1 E.2.1 p.1) p.2) false, [((12, nI (numM E.1 E.2.1 p.1), x) : Ins)])) = _
  rw [h]
theorem fld_no (x : Int32) (nm : Int64) (h : prtE E (t, al) nm false = none) : jrow E (10, x, 0, 0, nm) (jE j0 t al) = none := by
  show (match prtE E (t, al) nm false with
    | none => none
    | some p => some (jE j0 (sty (nmL E.2.1) (tyM E.1 E.2.1 p.1) p.2) false, [((12, nI (numM E.1 E.2.1 p.1), x) : Ins)])) = _
  rw [h]
theorem ask_no (x a : Int32) (nm : Int64) (h : prtE E (t, al) nm true = none) : jrow E (11, x, 0, a, nm) (jE j0 t al) = none := by
  show (match prtE E (t, al) nm true with
    | none => none
    | some p => if nI (psM E.2.1 p.1).length = a then some (jA j0 p (t :: jRS j0), ([] : List Ins)) else none) = _
  rw [h]
/-- codeMember: up to where the MEMBER is known. K: what is to follow in the good state -/
theorem x_22a (C : CE E N q s0 j0 cs) (A : atC E N q s0 c0 cs j0 os s nt t al l) (hl : l.length + c0 + 1 ≤ nt) (hb : cs + l.length ≤ 3090) (h3 : (E.1 nt).1 = 3) (hN1 : nt + 1 ≤ N) (hM : isM = decide ((E.1 (nt + 1)).1 = 40)) : (∀ p, prtE E (t, al) (E.1 nt).2.2.1 isM = some p → ∃ s1, o58 s s1 ∧ fne s1 (nt + 1) ∧ mjF (d + 7) 22 [.ref 75, .int (tyI t), .int (b2 al)] (mjW0 s) = (if b2 isM = 0 then bN (mjF (d + 6) 24 [.ref 75, .int (nI p.1), .int (nI nt)] (mjW0 s1)) (fun hp => b_22_176 (mjF (d + 6)) 75 (nI p.1) (nI p.2) hp) else bN (mjF (d + 6) 23 [.ref 75, .int (nI p.1), .int (nI nt), .int (nI p.2)] (mjW0 s1)) (fun hp => b_22_176 (mjF (d + 6)) 75 (nI p.1) (nI p.2) hp))) ∧ (prtE E (t, al) (E.1 nt).2.2.1 isM = none → ∃ s1 v, mjF (d + 7) 22 [.ref 75, .int (tyI t), .int (b2 al)] (mjW0 s) = some (some (.int (tyI v)), mjW0 s1) ∧ v < 524290 ∧ BC E.1 N q E.2.1 E.2.2.1 s1 ∧ oC q s0 s1) := by
  obtain ⟨A1, A2, A3, A4, A5, A6, A7, A8⟩ := A
  have hq' : q = 2 ∨ q = 30 := C.pq
  have Cs : CE E N q s j0 (cs + l.length) := C.go A7 A4
  have hT := Cs.TH
  have hN := hT.2.1
  have hn := C.1.hn
  have h16 := hn.1
  have tl := A2.lt hn
  have pre : mjF (d + 7) 22 [.ref 75, .int (tyI t), .int (b2 al)] (mjW0 s) = _ := e_22 (d := d + 6)
  unfold f_22 b_22_0 at pre
  rw [xg_75_0, xV_58, j_now hT A3.1 (by omega), bI_s] at pre
  by_cases t2 : t < 2
  · rw [if_neg (show ¬ (0 : Int32) ≤ tyI t from Int32.not_le.mpr ((tyI_neg tl).mpr t2)), xg_75_0, xV_58] at pre
    obtain ⟨y', y1, y2, y3⟩ := j_at (d := d + 5) (k := 7) (t := nt) hT A3 (by omega) (by omega) (by decide)
    rw [y1, bN_s] at pre
    refine ⟨fun p hp => ?_, fun _ => ⟨y', 0, pre, by decide, Cs.bad (by omega) y3 y2, A7.C.tr y3.C⟩⟩
    obtain ⟨k, e, _⟩ := prt_v C A2 hp
    omega
  · rcases A2 with e | e | ⟨k, e, vk⟩
    · omega
    · omega
    subst e
    have kl := vk.lt hn
    have kc := vk.cl hn
    have d3 := Cs.1.2.1.2.2.1
    rw [if_pos (show (0 : Int32) ≤ tyI (k + 2) from nI_pos' (by omega)), xg_75_0, xV_58, nI_1, j_kind hT A3.1 (by omega) hN1, bI_s] at pre
    have pre2 : mjF (d + 7) 22 [.ref 75, .int (tyI (k + 2)), .int (b2 al)] (mjW0 s) = b_22_44 (mjF (d + 6)) 75 (nI k) (b2 al) (nI nt) (b2 isM) (mjW0 s) := by
      rw [pre, hM]
      by_cases g : (E.1 (nt + 1)).1 = 40
      · rw [if_pos g, decide_eq_true g]; rfl
      · rw [if_neg g, decide_eq_false g]; rfl
    unfold b_22_44 at pre2
    rw [x_105 (by omega), bI_s, xg_75_3, Cs.1.2.2.2.2.2.1, xg_75_0, xV_58, j_key hT A3.1 (by omega) (by omega), bL_s, yV C.pq, x_121 Cs.1 kc (by omega) h3, bI_s, show kyT E.1 nt = (E.1 nt).2.2.1 from rfl] at pre2
    have ep : prtE E (k + 2, al) (E.1 nt).2.2.1 isM = match memT E.1 E.2.1 (cK k) (E.1 nt).2.2.1 isM with
      | some m => if (!al && hidM E.1 E.2.1 m) = true then none else some (m, seenT E.1 E.2.1 k m)
      | none => none := rfl
    cases hm : memT E.1 E.2.1 (cK k) (E.1 nt).2.2.1 isM with
    | none =>
      rw [hm] at ep
      rw [hm, oI_n, if_pos rfl, xg_75_0, xV_58] at pre2
      obtain ⟨y', y1, y2, y3⟩ := j_at (d := d + 5) (k := 5) (t := nt) hT A3 (by omega) (by omega) (by decide)
      rw [y1, bN_s] at pre2
      exact ⟨fun p hp => (by rw [ep] at hp; cases hp), fun _ => ⟨y', 0, pre2, by decide, Cs.bad (by omega) y3 y2, A7.C.tr y3.C⟩⟩
    | some m =>
      obtain ⟨ml, ms, v, hv⟩ := mem_v Cs.1 kc hm
      have vv := (vw_v hn kc hv).1
      have vl := vv.lt hn
      have es : seenT E.1 E.2.1 k m = stand (nmL E.2.1) v k := by unfold seenT; rw [hv]
      have okm : okM E (m, seenT E.1 E.2.1 k m) := ⟨ml, by show vK E.2.1 (seenT E.1 E.2.1 k m); rw [es]; exact vK.stand hn vv vk⟩
      rw [hm] at ep
      dsimp only at ep
      rw [hm, oI_s, if_neg (nI_m1 (by omega)), b2_i] at pre2
      -- the second half
      have half : ∃ s1, o58 s s1 ∧ fne s1 (nt + 1) ∧ b_22_116 (mjF (d + 6)) 75 (nI k) (nI nt) (b2 isM) (nI (cK k)) (nI m) (mjW0 s) = (if b2 isM = 0 then bN (mjF (d + 6) 24 [.ref 75, .int (nI m), .int (nI nt)] (mjW0 s1)) (fun hp => b_22_176 (mjF (d + 6)) 75 (nI m) (nI (seenT E.1 E.2.1 k m)) hp) else bN (mjF (d + 6) 23 [.ref 75, .int (nI m), .int (nI nt), .int (nI (seenT E.1 E.2.1 k m))] (mjW0 s1)) (fun hp => b_22_176 (mjF (d + 6)) 75 (nI m) (nI (seenT E.1 E.2.1 k m)) hp)) := by
        have xg : o58 s (tkGo s (nt + 1)) := o58.go _ _
        have C1 : CE E N q (tkGo s (nt + 1)) j0 (cs + l.length) := Cs.go xg.oe (by rw [xg.r (by omega)]; exact A4)
        have V : VWS E.1 E.2.1 q (tkGo s (nt + 1)) := C1.1.1.2.2.2.1
        have hmc := (C1.1.2.1.2.2.2.2 m ml).2.1
        refine ⟨_, xg, A3.go _, ?_⟩
        unfold b_22_116
        rw [xg_75_0, xV_58, j_skip hT A3 (by omega), bN_s, xg_75_3, C1.1.2.2.2.2.2.1, xg_75_3, C1.1.2.2.2.2.2.1, xg_75_4, C1.1.2.2.2.2.2.2.1, ymg_2 C.pq, wya_16 C.pq (by omega), (C1.1.2.1.2.2.2.2 m ml).1, yV C.pq, x_view C.pq (by omega) (by omega), bI_s, V _ (by omega) _ (by omega), if_pos kc, hv, oI_s, yV C.pq, x_stand C.pq C1.1.1.1.2.2.2.2.2.2.1 (by omega) (by omega) (by have := vv.cl hn; omega), bI_s, ← es, xV_75, xV_75]
      cases al with
      | true =>
        rw [if_pos rfl] at pre2
        have e2 : prtE E (k + 2, true) (E.1 nt).2.2.1 isM = some (m, seenT E.1 E.2.1 k m) := by rw [ep]; rfl
        refine ⟨fun p hp => ?_, fun hp => (by rw [e2] at hp; cases hp)⟩
        rw [e2] at hp
        cases hp
        obtain ⟨s1, h1, h2, h3'⟩ := half
        exact ⟨s1, h1, h2, pre2.trans h3'⟩
      | false =>
        rw [if_neg (by decide), xg_75_4, Cs.1.2.2.2.2.2.2.1, ymV C.pq, x_99 Cs.1 ml, bI_s, b2_i] at pre2
        cases hh : hidM E.1 E.2.1 m with
        | false =>
          rw [hh] at ep pre2
          rw [if_neg (by decide)] at pre2
          have e2 : prtE E (k + 2, false) (E.1 nt).2.2.1 isM = some (m, seenT E.1 E.2.1 k m) := by rw [ep]; rfl
          refine ⟨fun p hp => ?_, fun hp => (by rw [e2] at hp; cases hp)⟩
          rw [e2] at hp
          cases hp
          obtain ⟨s1, h1, h2, h3'⟩ := half
          exact ⟨s1, h1, h2, pre2.trans h3'⟩
        | true =>
          rw [hh] at ep pre2
          rw [if_pos rfl, xg_75_0, xV_58] at pre2
          have e2 : prtE E (k + 2, false) (E.1 nt).2.2.1 isM = none := by rw [ep]; rfl
          refine ⟨fun p hp => (by rw [e2] at hp; cases hp), fun _ => ?_⟩
          obtain ⟨y', y1, y2, y3⟩ := j_at (d := d + 5) (k := 10) (t := nt) hT A3 (by omega) (by omega) (by decide)
          have B := Cs.bad (by omega) y3 y2
          obtain ⟨x', w1, w2, w3⟩ := n_116 (d := d + 3) B vk okm hv es hN1 isM
          rw [y1, bN_s, w1] at pre2
          exact ⟨x', _, pre2, st_lt B.1 okm, w2, A7.C.tr (y3.C.tr w3)⟩
end MJA31
