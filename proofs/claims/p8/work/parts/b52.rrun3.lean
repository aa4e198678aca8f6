/-! ===== the reference's run, its loop ===== -/
section MJB52
variable {T : TT} {d N k0 kb b wm cm k i0 : Nat} {L : List CD} {t : PT} {rs : List RcM} {z : PB} {tr : Bool} {E : EV} {j : JS} {H : HEAP} {r : Row} {f : FRM} {fs : List FRM} {st : List Int32} {sc : SCL} {s s' : mjSt3} {A A' : AMS}
theorem aRet_sc (v : Int32) (h3 : sc.2.2.2.2.1 ≤ 3) : (aRet (H, f :: fs, k, st, sc) f fs v).2.2.2.2.1 = sc.1 ∧ (aRet (H, f :: fs, k, st, sc) f fs v).2.2.2.2.2.1 = sc.2.1 ∧ (aRet (H, f :: fs, k, st, sc) f fs v).2.2.2.2.2.2.2.2.1 ≤ 3 := by
  cases fs with
  | nil => exact ⟨rfl, rfl, show (2 : Nat) ≤ 3 by decide⟩
  | cons g gs => exact ⟨rfl, rfl, h3⟩
theorem aCall_sc {n m' : Nat} {p : Int32} (h : sc.1 ≤ 41) (h3 : sc.2.2.2.2.1 ≤ 3) (hl : (f :: fs).length ≤ 40) : (aCall T L cm n m' p (H, f :: fs, k, st, sc) (f :: fs)).2.2.2.2.1 ≤ 41 ∧ (aCall T L cm n m' p (H, f :: fs, k, st, sc) (f :: fs)).2.2.2.2.2.1 ≤ sc.2.1 + 1 ∧ (aCall T L cm n m' p (H, f :: fs, k, st, sc) (f :: fs)).2.2.2.2.2.2.2.2.1 ≤ 3 := by
  rw [aCall_eq]
  by_cases g1 : st[n]?.getD 0 = 0
  · rw [if_pos g1]; exact ⟨h, Nat.le_succ _, show (3 : Nat) ≤ 3 from Nat.le_refl 3⟩
  rw [if_neg g1]
  by_cases g2 : (f :: fs).length = cm
  · rw [if_pos g2]; exact ⟨h, Nat.le_succ _, show (3 : Nat) ≤ 3 from Nat.le_refl 3⟩
  rw [if_neg g2]
  cases memT T L (H.2 (nN (st[n]?.getD 0))).1 (nkM T L m') true with
  | none => exact ⟨h, Nat.le_succ _, h3⟩
  | some d =>
    refine ⟨?_, Nat.le_succ _, h3⟩
    show (if sc.1 < (f :: fs).length + 1 then (f :: fs).length + 1 else sc.1) ≤ 41
    by_cases q : sc.1 < (f :: fs).length + 1
    · rw [if_pos q]; omega
    · rw [if_neg q]; exact h
theorem aStep_sc (h : sc.1 ≤ 41) (h3 : sc.2.2.2.2.1 ≤ 3) (hl : (f :: fs).length ≤ 40) : (aStep T L E j i0 wm cm r (H, f :: fs, k, st, sc)).2.2.2.2.1 ≤ 41 ∧ (aStep T L E j i0 wm cm r (H, f :: fs, k, st, sc)).2.2.2.2.2.1 ≤ sc.2.1 + 1 ∧ (aStep T L E j i0 wm cm r (H, f :: fs, k, st, sc)).2.2.2.2.2.2.2.2.1 ≤ 3 := by
  by_cases c1 : r.1 = 1
  · rw [as_1 c1]; exact ⟨h, Nat.le_succ _, h3⟩
  by_cases c3 : r.1 = 3
  · rw [as_3 c3]; exact ⟨h, Nat.le_succ _, h3⟩
  by_cases c4 : r.1 = 4
  · rw [as_4 c4]; exact ⟨h, Nat.le_succ _, h3⟩
  by_cases c5 : r.1 = 5
  · rw [as_5 c5]; exact ⟨h, Nat.le_succ _, h3⟩
  by_cases c6 : r.1 = 6
  · rw [as_6 c6]; exact ⟨h, Nat.le_succ _, h3⟩
  by_cases c7 : r.1 = 7
  · rw [as_7 c7]
    cases kdE E r.2.2.1 with
    | none => exact ⟨h, Nat.le_succ _, h3⟩
    | some kk =>
      dsimp only
      by_cases q : wm < bsH T L H H.1 + szO T L (cK kk)
      · rw [if_pos q]; exact ⟨h, Nat.le_succ _, show (3 : Nat) ≤ 3 from Nat.le_refl 3⟩
      · rw [if_neg q]; exact ⟨h, Nat.le_succ _, h3⟩
  by_cases c8 : r.1 = 8
  · rw [as_8 c8]; exact ⟨h, Nat.le_succ _, h3⟩
  by_cases c9 : r.1 = 9
  · rw [as_9 c9]
    cases two2 r.2.2.1 (st.tail.headD 0) (st.headD 0) with
    | none => exact ⟨h, Nat.le_succ _, show (3 : Nat) ≤ 3 from Nat.le_refl 3⟩
    | some v => exact ⟨h, Nat.le_succ _, h3⟩
  by_cases c10 : r.1 = 10
  · rw [as_10 c10]
    by_cases q : st.headD 0 = 0
    · rw [if_pos q]; exact ⟨h, Nat.le_succ _, show (3 : Nat) ≤ 3 from Nat.le_refl 3⟩
    · rw [if_neg q]; exact ⟨h, Nat.le_succ _, h3⟩
  by_cases c13 : r.1 = 13
  · rw [as_13 c13]; exact aCall_sc h h3 hl
  by_cases c14 : r.1 = 14
  · rw [as_14 c14]
    cases kdE E r.2.2.1 with
    | none => exact ⟨h, Nat.le_succ _, h3⟩
    | some kk =>
      dsimp only
      by_cases q : asO T L H f.1 f.2.1 (st.headD 0) kk = true
      · rw [if_pos q]; exact ⟨h, Nat.le_succ _, h3⟩
      · rw [if_neg q]; exact ⟨h, Nat.le_succ _, show (3 : Nat) ≤ 3 from Nat.le_refl 3⟩
  by_cases c17 : r.1 = 17
  · rw [as_17 c17]; exact ⟨h, Nat.le_succ _, h3⟩
  by_cases c18 : r.1 = 18
  · rw [as_18 c18]
    by_cases q : st.tail.headD 0 = 0
    · rw [if_pos q]; exact ⟨h, Nat.le_succ _, show (3 : Nat) ≤ 3 from Nat.le_refl 3⟩
    · rw [if_neg q]; exact ⟨h, Nat.le_succ _, h3⟩
  by_cases c20 : r.1 = 20
  · rw [as_20 c20]; exact ⟨h, Nat.le_succ _, h3⟩
  by_cases c21 : r.1 = 21
  · rw [as_21 c21]
    by_cases q : st.headD 0 = 0
    · rw [if_pos q]; exact ⟨h, Nat.le_succ _, h3⟩
    · rw [if_neg q]; exact ⟨h, Nat.le_succ _, h3⟩
  by_cases c22 : r.1 = 22 ∨ r.1 = 23
  · rw [as_22 c22]; exact ⟨h, Nat.le_succ _, h3⟩
  by_cases c24 : r.1 = 24
  · rw [as_24 c24]; exact ⟨h, Nat.le_refl _, h3⟩
  by_cases c25 : r.1 = 25
  · rw [as_25 c25]; exact ⟨h, Nat.le_succ _, h3⟩
  by_cases c28 : r.1 = 28
  · rw [as_28 c28]
    by_cases q : r.2.2.1 = 1
    · rw [if_pos q]
      have e := aRet_sc (H := H) (k := k) (f := f) (fs := fs) (st := st.tail) (sc := sc) (st.headD 0) h3
      show (aRet (H, f :: fs, k, st.tail, sc) f fs (st.headD 0)).2.2.2.2.1 ≤ 41 ∧ (aRet (H, f :: fs, k, st.tail, sc) f fs (st.headD 0)).2.2.2.2.2.1 ≤ sc.2.1 + 1 ∧ (aRet (H, f :: fs, k, st.tail, sc) f fs (st.headD 0)).2.2.2.2.2.2.2.2.1 ≤ 3
      rw [e.1, e.2.1]
      exact ⟨h, Nat.le_succ _, e.2.2⟩
    · rw [if_neg q]
      have e := aRet_sc (H := H) (k := k) (f := f) (fs := fs) (st := st) (sc := sc) 0 h3
      rw [e.1, e.2.1]
      exact ⟨h, Nat.le_succ _, e.2.2⟩
  · have e : aStep T L E j i0 wm cm r (H, f :: fs, k, st, sc) = (H, f :: fs, k, st, sc) := by
      unfold aStep
      dsimp only
      rw [if_neg c1, if_neg c3, if_neg c4, if_neg c5, if_neg c6, if_neg c7, if_neg c8, if_neg c9, if_neg c10, if_neg c13, if_neg c14, if_neg c17, if_neg c18, if_neg c20, if_neg c21, if_neg c22, if_neg c24, if_neg c25, if_neg c28]
    rw [e]
    exact ⟨h, Nat.le_succ _, h3⟩
/-- the whole of a RUN's state on the reference's side -/
def RIn (T : TT) (N b : Nat) (t : PT) (rs : List RcM) (z : PB) (tr : Bool) (wm cm : Nat) (A : AMS) (s : mjSt3) : Prop := MRn T t b wm cm A s ∧ RPG T b t rs z tr s ∧ s.1 97 9 = nI b ∧ AOK T t rs z tr (800 * b) wm cm A ∧ A.2.2.2.2.1 ≤ 41
theorem jX_of {l : List Ins} (h : jrun (EMx T t tr k0 f.1) ((osM rs z f.1).take k) (jmT T t.1 f.1) = some (j, l)) : jX T t rs z tr k0 f.1 k = j := by unfold jX; rw [h]
/-- one order -/
theorem one_229 (P : PRX T N (800 * b) t rs kb z tr) (hb : b ≤ 1) (wm4 : wm ≤ 4000) (cm4 : cm ≤ 40) (h384 : ∀ c, fldT T t.1 c ≤ 384) (I : RIn T N b t rs z tr wm cm (H, f :: fs, k, st, sc) s) (ph : sc.2.2.2.2.1 = 1) (hs : sc.2.1 < 100000000) : s.1 97 119 = nI (i0T t f.1 + k) ∧ i0T t f.1 + k < 5000 ∧ s.1 143 (5000 * b + (i0T t f.1 + k)) = (aOrd rs z (H, f :: fs, k, st, sc)).1 ∧ ∃ s', RIn T N b t rs z tr wm cm (aOne T t rs z tr (800 * b) wm cm (H, f :: fs, k, st, sc)) s' ∧ oRn s s' ∧ (aOne T t rs z tr (800 * b) wm cm (H, f :: fs, k, st, sc)).2.2.2.2.2.1 ≤ sc.2.1 + 1 ∧ ∀ (k31 : Nat → Int32 → Int32 → mjH → mjU) (l2 : Int32), b_229_93 (mjF (d + 6)) k31 97 l2 (nI (5000 * b + (i0T t f.1 + k))) (mjW0 (if costs (aOrd rs z (H, f :: fs, k, st, sc)) = true then uI s 97 (upd (s.1 97) 100 (s.1 97 100 + 1)) else s)) = k31 97 l2 (if (aOne T t rs z tr (800 * b) wm cm (H, f :: fs, k, st, sc)).2.2.2.2.2.2.2.2.1 = 1 then 1 else 0) (mjW0 s') := by
  obtain ⟨M, G, h9, hA, hm⟩ := I
  obtain ⟨j, l, seg, rest, ej, F, hk, ty, est, sl, fm, im⟩ := AOK.info P hA ph
  have i5 := P.2.2 f.1 fm im
  have eo : aOrd rs z (H, f :: fs, k, st, sc) = ((osM rs z f.1)[k]?).getD oOver := rfl
  obtain ⟨c, hc⟩ : ∃ c, c = costs (aOrd rs z (H, f :: fs, k, st, sc)) := ⟨_, rfl⟩
  obtain ⟨s1, s2, t1, t2, t3, t4, t5, t6, t7⟩ := M.tick c
  have hA' : AOK T t rs z tr (800 * b) wm cm (H, f :: fs, k, st, aTick sc c) := hA
  have ph' : (aTick sc c).2.2.2.2.1 = 1 := ph
  obtain ⟨s', x1, x2, x3⟩ := x_231 (d := d) (r := aOrd rs z (H, f :: fs, k, st, sc)) P (G.run t5) (by rw [t5.1 97 9 (by unfold chRn; omega)]; exact h9) hb hA' ph' wm4 cm4 (show sc.1 ≤ 100 by have : sc.1 ≤ 41 := hm; omega) hs h384 t6 ej eo
  have eone : aOne T t rs z tr (800 * b) wm cm (H, f :: fs, k, st, sc) = aStep T t.1 (EMx T t tr (800 * b) f.1) j (i0T t f.1) wm cm (aOrd rs z (H, f :: fs, k, st, sc)) (H, f :: fs, k + 1, st, aTick sc c) := by
    show aStep T t.1 (EMx T t tr (800 * b) f.1) (jX T t rs z tr (800 * b) f.1 k) (i0T t f.1) wm cm (aOrd rs z (H, f :: fs, k, st, sc)) (H, f :: fs, k + 1, st, aTick sc (costs (aOrd rs z (H, f :: fs, k, st, sc)))) = _
    rw [jX_of ej, ← hc]
  have hA2 := snd_step (r := aOrd rs z (H, f :: fs, k, st, sc)) P wm4 hA' ph' ej eo
  have hl : (f :: fs).length ≤ 40 := Nat.le_trans hA.2.2.1 cm4
  have sc2 := aStep_sc (T := T) (L := t.1) (E := EMx T t tr (800 * b) f.1) (j := j) (i0 := i0T t f.1) (wm := wm) (cm := cm) (r := aOrd rs z (H, f :: fs, k, st, sc)) (H := H) (k := k + 1) (st := st) (sc := aTick sc c) hm (show sc.2.2.2.2.1 ≤ 3 by omega) hl
  rw [← eone] at x3 hA2 sc2
  refine ⟨(M.2.2.2 f fs rfl).1, by omega, ?_, s', ⟨x3, (G.run t5).run x2, by rw [x2.1 97 9 (by unfold chRn; omega), t5.1 97 9 (by unfold chRn; omega)]; exact h9, hA2, sc2.1⟩, offG.tr t5 x2, sc2.2.1, fun k31 l2 => ?_⟩
  · rw [eo]
    cases hkr : (osM rs z f.1)[k]? with
    | none =>
      have kl : (osM rs z f.1).length ≤ k := List.getElem?_eq_none_iff.mp hkr
      have ov := (G.2.2.2.2.2 f.1 fm im).2
      unfold OvB at ov
      have lk : (osM rs z f.1).length = k := by omega
      have lk' : (zT rs z f.1).2.2.2.1.length = k := lk
      rw [lk'] at ov
      exact ov.1
    | some r0 => exact ((G.2.2.2.2.2 f.1 fm im).1 k r0 hkr j l ej).1.1
  · rw [← hc, ← t7]
    unfold b_229_93
    have e119 : nI (i0T t f.1 + k) + 1 = nI (i0T t f.1 + (k + 1)) := nI_1 _
    have h96 : s'.1 97 96 = nI (aOne T t rs z tr (800 * b) wm cm (H, f :: fs, k, st, sc)).2.2.2.2.2.2.2.2.1 := x3.1.1.1
    rw [xg_97_119, t3, e119, xp_97_119, ← t4, xV_97, x1, bN_s, xg_97_96, h96]
    unfold b_229_122
    by_cases q : (aOne T t rs z tr (800 * b) wm cm (H, f :: fs, k, st, sc)).2.2.2.2.2.2.2.2.1 = 1
    · rw [if_pos q, q, if_pos (show nI 1 = (1 : Int32) from rfl)]
    · rw [if_neg q, if_neg (fun e => q ?_)]
      have := (nI_eq (b := 1) (Nat.lt_of_le_of_lt sc2.2.2 (by decide)) (by omega)).mp e
      exact this
end MJB52
