/-! ===== no more numbers are said than STEPS are taken ===== -/
/-- e is no less than how many CALLS are inside a say -/
def YB (rs : List RcM) (z : PB) : List FRM → Nat → Nat → Prop
  | [], _, _ => True
  | f :: fs, k, e => ∃ e1 e2, e1 + e2 ≤ e ∧ (inY (osM rs z f.1) k → 1 ≤ e1) ∧ YB rs z fs f.2.2.2.2 e2
def YI (rs : List RcM) (z : PB) (A : AMS) : Prop := ∃ e, YB rs z A.2.1 A.2.2.1 e ∧ A.2.2.2.2.2.1 + e ≤ A.2.2.2.2.2.2.2.1
def SYX (t : PT) (rs : List RcM) (z : PB) : Prop := ∀ m, m ≤ 384 → isMT t.1 m = true → SYo (i0T t m) (osM rs z m)
section MJB68
variable {T : TT} {N k0 kb wm cm k kk m i0 : Nat} {L : List CD} {t : PT} {rs : List RcM} {z : PB} {tr : Bool} {H : HEAP} {r : Row} {j : JS} {f : FRM} {fs : List FRM} {st : List Int32} {sc : SCL} {A : AMS} {os : List Row}
theorem YI.le (h : YI rs z A) : A.2.2.2.2.2.1 ≤ A.2.2.2.2.2.2.2.1 := by
  obtain ⟨e, _, h⟩ := h
  omega
theorem inY_next (hk : os[k]? = some r) (n1 : ¬ r.1 = 1) (h : inY os (k + 1)) : inY os k := by
  obtain ⟨p, q, rp, rq, h1, h2, h3, h4, h5, h6, h7⟩ := h
  by_cases e : p = k
  · rw [e, hk] at h3
    have e2 := Option.some.inj h3
    rw [← e2] at h4
    exact absurd h4 n1
  · exact ⟨p, q, rp, rq, by omega, by omega, h3, h4, h5, h6, h7⟩
theorem inY_24 (hk : os[k]? = some r) (h24 : r.1 = 24) : ¬ inY os (k + 1) := by
  intro ⟨p, q, rp, rq, h1, h2, h3, h4, h5, h6, h7⟩
  by_cases e : p = k
  · rw [e, hk] at h3
    have e2 := Option.some.inj h3
    rw [← e2, h24] at h4
    exact absurd h4 (by decide)
  · have := nY.e (h7 k r (by omega) (by omega) hk)
    exact this (Or.inr (Or.inr h24))
theorem inY_of (ha : syA os) (hk : os[k]? = some r) (h24 : r.1 = 24) : inY os k := by
  obtain ⟨p, rp, p1, p2, p3, p4⟩ := ha k r hk h24
  exact ⟨p, k, rp, r, p1, Nat.le_refl _, p2, p3, hk, h24, p4⟩
theorem inY_0 : ¬ inY os 0 := by
  intro ⟨p, q, rp, rq, h1, _⟩
  omega
/-- an order of an E leaves something that waits -/
theorem isE_ne {G : GS} (h : isE r) (ok : okG r G) : nxG r G ≠ [] := by
  rcases ok with o | ⟨o, G', eG⟩ | ⟨o, G', eG⟩ | ⟨o, n, G', n6, ob, eG⟩ | ⟨o, n, i, w, G', eG, hi, n6, oa⟩ | ⟨o, n, G', n6, oa, eG⟩ | ⟨o, eG⟩ | ⟨o, eG⟩ | ⟨o, eG⟩ | ⟨o, eG⟩ | ⟨o, eG⟩ | ⟨o, eG⟩
  · rw [nxG_a o]; exact List.cons_ne_nil _ _
  · rw [nxG_9 o, eG]; exact List.cons_ne_nil _ _
  · rw [nxG_n (by rcases o with o | o | o | o <;> rw [o] <;> decide), eG]; exact List.cons_ne_nil _ _
  · rw [nxG_11 o]; exact List.cons_ne_nil _ _
  · rw [nxG_12 o, eG]; exact List.cons_ne_nil _ _
  · rw [nxG_13 o]; exact List.cons_ne_nil _ _
  all_goals
    exfalso
    unfold isE at h
  · rw [o] at h; exact absurd h (by decide)
  · rw [o] at h; exact absurd h (by decide)
  · rw [o] at h; exact absurd h (by decide)
  · rw [o] at h; exact absurd h (by decide)
  · rcases o with o | o | o | o | o
    · rw [o] at h; exact absurd h (by decide)
    · rw [o] at h; exact absurd h (by decide)
    · rw [o] at h; exact absurd h (by decide)
    · rw [o] at h; exact absurd h (by decide)
    · rw [o.1] at h; exact absurd h (by decide)
  · rcases o with o | o | o | o | o | o | o <;> · rw [o] at h; exact absurd h (by decide)
/-- no jump goes into a say -/
theorem inY_j (g : gdGS i0 os) (y : SYo i0 os) (i5 : i0 + os.length < 5000) (hk : os[k]? = some r) (hr : r.1 = 21 ∨ r.1 = 22 ∨ r.1 = 23) {x : Nat} (xl : x ≤ os.length) (hx : r.2.2.1 = nI (i0 + x)) : ¬ inY os x := by
  obtain ⟨g1, g2, g3⟩ := g
  obtain ⟨q1, q2⟩ := g3 k r hk
  have inj : ∀ x', i0 + x' < 5000 → r.2.2.1 = nI (i0 + x') → x' = x := by
    intro x' hb h
    have e := (nI_eq (a := i0 + x') (b := i0 + x) (by omega) (by omega)).mp (h.symm.trans hx)
    omega
  intro ⟨p, q, rp, rq, h1, h2, h3, h4, h5, h6, h7⟩
  by_cases h23 : r.1 = 23
  · obtain ⟨x', r', x1, x2, x3, x4⟩ := q2 h23
    have xl' := (List.getElem?_eq_some_iff.mp x2).1
    have ex := inj x' (by omega) x4
    rw [ex] at x2
    by_cases e : x = q
    · rw [e, h5] at x2
      have e2 := Option.some.inj x2
      rw [← e2, h6] at x3
      exact absurd x3 (by decide)
    · have hE := h7 x r' h1 (by omega) x2
      unfold isE at hE
      rw [x3] at hE
      exact absurd hE (by decide)
  · have h2' : r.1 = 21 ∨ r.1 = 22 := by
      rcases hr with h | h | h
      · exact Or.inl h
      · exact Or.inr h
      · exact absurd h h23
    obtain ⟨v, rv, v1, v2, v3⟩ := y.2 r (List.mem_of_getElem? hk) h2'
    have vl := (List.getElem?_eq_some_iff.mp v2).1
    have ev := inj (v + 1) (by omega) v1
    obtain ⟨x', _, x2, x3, x4⟩ := q1 h2'
    have ex := inj x' (by omega) x3
    rw [ex, ← ev] at x4
    by_cases e : p = v
    · rw [e, v2] at h3
      have e2 := Option.some.inj h3
      rw [← e2] at h4
      exact v3 h4
    · have hE := h7 v rv (by omega) (by omega) v2
      have s := g1
      rw [(List.take_append_drop v os).symm, sdG_app] at s
      have dr : os.drop v = rv :: os.drop (v + 1) := by
        rw [List.drop_eq_getElem_cons vl]
        congr 1
        exact (List.getElem?_eq_some_iff.mp v2).2
      rw [dr] at s
      have ne := isE_ne hE s.2.1
      rw [tk_succ v2, fdG_app] at x4
      exact ne x4
theorem YI.ret {e2 : Nat} {v : Int32} (h2 : YB rs z fs f.2.2.2.2 e2) (hs : sc.2.1 + e2 ≤ sc.2.2.2.1) : YI rs z (aRet (H, f :: fs, k, st, sc) f fs v) := by
  cases fs with
  | nil => exact ⟨0, trivial, by show sc.2.1 + 0 ≤ sc.2.2.2.1; omega⟩
  | cons g gs => exact ⟨e2, h2, hs⟩
/-- one order -/
theorem YI.one (P : PRX T N k0 t rs kb z tr) (Y : SYX t rs z) (hA : AOK T t rs z tr k0 wm cm (H, f :: fs, k, st, sc)) (ph : sc.2.2.2.2.1 = 1) (I : YI rs z (H, f :: fs, k, st, sc)) : YI rs z (aOne T t rs z tr k0 wm cm (H, f :: fs, k, st, sc)) := by
  obtain ⟨j, l, seg, rest, ej, F, hk, ty, est, sl, fm, im⟩ := AOK.info P hA ph
  obtain ⟨e, ⟨e1, e2, he, h1, h2⟩, hs⟩ := I
  have hs' : sc.2.1 + e ≤ sc.2.2.2.1 := hs
  have i5 := P.2.2 f.1 fm im
  have gd := (P.1.2.2 f.1 fm im).1
  have sy := Y f.1 fm im
  obtain ⟨r, hr⟩ : ∃ r, r = aOrd rs z (H, f :: fs, k, st, sc) := ⟨_, rfl⟩
  have hr' : r = ((osM rs z f.1)[k]?).getD oOver := hr
  have hkr : ¬ r.1 = 28 → (osM rs z f.1)[k]? = some r := by
    intro h
    cases q : (osM rs z f.1)[k]? with
    | none =>
      rw [q] at hr'
      exact absurd (by rw [hr']; rfl) h
    | some r0 =>
      rw [q] at hr'
      rw [hr']
      rfl
  obtain ⟨sc', hsc⟩ : ∃ y, y = aTick sc (costs r) := ⟨_, rfl⟩
  have s1 : sc'.2.1 = sc.2.1 := by rw [hsc]; rfl
  have s3 : costs r = true → sc'.2.2.2.1 = sc.2.2.2.1 + 1 := fun q => by rw [hsc]; exact if_pos q
  have s2 : sc.2.2.2.1 ≤ sc'.2.2.2.1 := by
    by_cases q : costs r = true
    · rw [s3 q]; omega
    · rw [hsc]
      exact Nat.le_of_eq (show sc.2.2.2.1 = (if costs r = true then sc.2.2.2.1 + 1 else sc.2.2.2.1) from (if_neg q).symm)
  have eone : aOne T t rs z tr k0 wm cm (H, f :: fs, k, st, sc) = aStep T t.1 (EMx T t tr k0 f.1) j (i0T t f.1) wm cm r (H, f :: fs, k + 1, st, sc') := by
    show aStep T t.1 (EMx T t tr k0 f.1) (jX T t rs z tr k0 f.1 k) (i0T t f.1) wm cm (aOrd rs z (H, f :: fs, k, st, sc)) (H, f :: fs, k + 1, st, aTick sc (costs (aOrd rs z (H, f :: fs, k, st, sc)))) = _
    rw [jX_of ej, ← hr, ← hsc]
  rw [eone]
  have fl : ∀ (x : List Int32) (n p : Int32), YI rs z (aFail (H, f :: fs, k + 1, x, sc') n p) := fun x n p => ⟨0, trivial, by show sc'.2.1 + 0 ≤ sc'.2.2.2.1; omega⟩
  have nx : ∀ (H' : HEAP) (f' : FRM) (st' : List Int32), ¬ r.1 = 1 → ¬ r.1 = 28 → f'.1 = f.1 → f'.2.2.2.2 = f.2.2.2.2 → YI rs z (H', f' :: fs, k + 1, st', sc') := by
    intro H' f' st' n1 n28 g1 g2
    refine ⟨e, ⟨e1, e2, he, fun q => h1 (inY_next (hkr n28) n1 ?_), by rw [g2]; exact h2⟩, by show sc'.2.1 + e ≤ sc'.2.2.2.1; omega⟩
    rw [g1] at q
    exact q
  have rt : ∀ (v : Int32) (x : List Int32), YI rs z (aRet (H, f :: fs, k + 1, x, sc') f fs v) := fun v x => YI.ret h2 (by omega)
  have jp : ∀ (x : Nat) (st' : List Int32), ¬ inY (osM rs z f.1) x → YI rs z (H, f :: fs, x, st', sc') := fun x st' hx => ⟨e2, ⟨0, e2, by omega, fun q => absurd q hx, h2⟩, by show sc'.2.1 + e2 ≤ sc'.2.2.2.1; omega⟩
  by_cases c1 : r.1 = 1
  · have cc : costs r = true := by unfold costs; rw [c1]; decide
    have s4 := s3 cc
    rw [as_1 c1]
    exact ⟨e + 1, ⟨e1 + 1, e2, by omega, fun _ => by omega, h2⟩, by show sc'.2.1 + (e + 1) ≤ sc'.2.2.2.1; omega⟩
  by_cases c28 : r.1 = 28
  · rw [as_28 c28]
    by_cases g : r.2.2.1 = 1
    · rw [if_pos g]; exact rt _ _
    · rw [if_neg g]; exact rt _ _
  have hkk := hkr c28
  by_cases c3 : r.1 = 3
  · rw [as_3 c3]; exact nx _ _ _ c1 c28 rfl rfl
  by_cases c4 : r.1 = 4
  · rw [as_4 c4]; exact nx _ _ _ c1 c28 rfl rfl
  by_cases c5 : r.1 = 5
  · rw [as_5 c5]; exact nx _ _ _ c1 c28 rfl rfl
  by_cases c6 : r.1 = 6
  · rw [as_6 c6]; exact nx _ _ _ c1 c28 rfl rfl
  by_cases c7 : r.1 = 7
  · rw [as_7 c7]
    cases kdE (EMx T t tr k0 f.1) r.2.2.1 with
    | none => exact nx _ _ _ c1 c28 rfl rfl
    | some kx =>
      dsimp only
      by_cases q : wm < bsH T t.1 H H.1 + szO T t.1 (cK kx)
      · rw [if_pos q]; exact fl _ _ _
      · rw [if_neg q]; exact nx _ _ _ c1 c28 rfl rfl
  by_cases c8 : r.1 = 8
  · rw [as_8 c8]; exact nx _ _ _ c1 c28 rfl rfl
  by_cases c9 : r.1 = 9
  · rw [as_9 c9]
    cases two2 r.2.2.1 (st.tail.headD 0) (st.headD 0) with
    | none => exact fl _ _ _
    | some v => exact nx _ _ _ c1 c28 rfl rfl
  by_cases c10 : r.1 = 10
  · rw [as_10 c10]
    by_cases q : st.headD 0 = 0
    · rw [if_pos q]; exact fl _ _ _
    · rw [if_neg q]; exact nx _ _ _ c1 c28 rfl rfl
  by_cases c13 : r.1 = 13
  · rw [as_13 c13, aCall_eq]
    by_cases g1 : st[nN r.2.2.1]?.getD 0 = 0
    · rw [if_pos g1]; exact fl _ _ _
    rw [if_neg g1]
    by_cases g2 : (f :: fs).length = cm
    · rw [if_pos g2]; exact fl _ _ _
    rw [if_neg g2]
    cases memT T t.1 (H.2 (nN (st[nN r.2.2.1]?.getD 0))).1 (nkM T t.1 (j.2.1.headD (0, 0)).1) true with
    | none => exact nx _ _ _ c1 c28 rfl rfl
    | some d => exact ⟨e, ⟨0, e, by omega, fun q => absurd q inY_0, e1, e2, he, fun q => h1 (inY_next hkk c1 q), h2⟩, by show sc'.2.1 + e ≤ sc'.2.2.2.1; omega⟩
  by_cases c14 : r.1 = 14
  · rw [as_14 c14]
    cases kdE (EMx T t tr k0 f.1) r.2.2.1 with
    | none => exact nx _ _ _ c1 c28 rfl rfl
    | some kx =>
      dsimp only
      by_cases q : asO T t.1 H f.1 f.2.1 (st.headD 0) kx = true
      · rw [if_pos q]; exact nx _ _ _ c1 c28 rfl rfl
      · rw [if_neg q]; exact fl _ _ _
  by_cases c17 : r.1 = 17
  · rw [as_17 c17]; exact nx _ _ _ c1 c28 rfl rfl
  by_cases c18 : r.1 = 18
  · rw [as_18 c18]
    by_cases q : st.tail.headD 0 = 0
    · rw [if_pos q]; exact fl _ _ _
    · rw [if_neg q]; exact nx _ _ _ c1 c28 rfl rfl
  by_cases c20 : r.1 = 20
  · rw [as_20 c20]; exact nx _ _ _ c1 c28 rfl rfl
  by_cases cj : r.1 = 21 ∨ r.1 = 22 ∨ r.1 = 23
  · obtain ⟨x, x1, x2, x3, _⟩ := P.jump fm im hkk cj
    have ny := inY_j gd sy i5 hkk cj x1 x2
    rcases cj with cj | cj | cj
    · rw [as_21 cj, x3]
      by_cases g : st.headD 0 = 0
      · rw [if_pos g]; exact jp x _ ny
      · rw [if_neg g]; exact nx _ _ _ c1 c28 rfl rfl
    · rw [as_22 (Or.inl cj), x3]; exact jp x _ ny
    · rw [as_22 (Or.inr cj), x3]; exact jp x _ ny
  by_cases c24 : r.1 = 24
  · rw [as_24 c24]
    have y1 := h1 (inY_of sy.1 hkk c24)
    exact ⟨e2, ⟨0, e2, by omega, fun q => absurd q (inY_24 hkk c24), h2⟩, by show sc'.2.1 + 1 + e2 ≤ sc'.2.2.2.1; omega⟩
  by_cases c25 : r.1 = 25
  · rw [as_25 c25]; exact nx _ _ _ c1 c28 rfl rfl
  · have c22 : ¬ (r.1 = 22 ∨ r.1 = 23) := fun h => cj (Or.inr h)
    have c21 : ¬ r.1 = 21 := fun h => cj (Or.inl h)
    have ee : aStep T t.1 (EMx T t tr k0 f.1) j (i0T t f.1) wm cm r (H, f :: fs, k + 1, st, sc') = (H, f :: fs, k + 1, st, sc') := by
      unfold aStep
      dsimp only
      rw [if_neg c1, if_neg c3, if_neg c4, if_neg c5, if_neg c6, if_neg c7, if_neg c8, if_neg c9, if_neg c10, if_neg c13, if_neg c14, if_neg c17, if_neg c18, if_neg c20, if_neg c21, if_neg c22, if_neg c24, if_neg c25, if_neg c28]
    rw [ee]
    exact nx _ _ _ c1 c28 rfl rfl
end MJB68
