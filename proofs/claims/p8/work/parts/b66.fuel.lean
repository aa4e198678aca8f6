/-! ===== a RUN ends: between two STEPS, and in all ===== -/
def cwA (rs : List RcM) (z : PB) (A : AMS) : Nat := match A.2.1 with
  | [] => 0
  | f :: fs => (f :: fs).length * 5001 + (if (aOrd rs z A).1 = 2 then 0 else 5000 - A.2.2.1)
/-- all that has no STEP -/
def aCo (T : TT) (t : PT) (rs : List RcM) (z : PB) (tr : Bool) (k0 wm cm : Nat) : Nat → AMS → Option AMS
  | 0, _ => none
  | n + 1, A => if ¬ A.2.2.2.2.2.2.2.2.1 = 1 then some A else if costs (aOrd rs z A) = true then some A else aCo T t rs z tr k0 wm cm n (aOne T t rs z tr k0 wm cm A)
section MJB66
variable {T : TT} {N k0 kb wm cm k kk : Nat} {L : List CD} {t : PT} {rs : List RcM} {z : PB} {tr : Bool} {H : HEAP} {r : Row} {j : JS} {l : List Ins} {f : FRM} {fs : List FRM} {st : List Int32} {sc : SCL} {A B C : AMS}
theorem cw_le (A : AMS) : cwA rs z A ≤ A.2.1.length * 5001 + 5000 := by
  unfold cwA
  cases A.2.1 with
  | nil => exact Nat.zero_le _
  | cons f fs =>
    dsimp only
    by_cases h : (aOrd rs z A).1 = 2
    · rw [if_pos h]; omega
    · rw [if_neg h]; omega
theorem cw_fr : cwA rs z (H, f :: fs, kk, st, sc) ≤ (f :: fs).length * 5001 + (5000 - kk) := by
  show (f :: fs).length * 5001 + (if (aOrd rs z (H, f :: fs, kk, st, sc)).1 = 2 then 0 else 5000 - kk) ≤ _
  by_cases h : (aOrd rs z (H, f :: fs, kk, st, sc)).1 = 2
  · rw [if_pos h]; omega
  · rw [if_neg h]; omega
theorem cw_nil : cwA rs z (H, [], kk, st, sc) = 0 := rfl
theorem cw_ret (v : Int32) : cwA rs z (aRet (H, f :: fs, kk, st, sc) f fs v) ≤ (f :: fs).length * 5001 - 1 := by
  have e : (f :: fs).length = fs.length + 1 := rfl
  cases fs with
  | nil =>
    show 0 ≤ _
    exact Nat.zero_le _
  | cons g gs =>
    have := cw_fr (rs := rs) (z := z) (H := H) (f := g) (fs := gs) (kk := f.2.2.2.2) (st := v :: st) (sc := sc)
    show cwA rs z (H, g :: gs, f.2.2.2.2, v :: st, sc) ≤ _
    omega
/-- an order without a STEP -/
theorem cw_dec (P : PRX T N k0 t rs kb z tr) (hA : AOK T t rs z tr k0 wm cm (H, f :: fs, k, st, sc)) (ph : sc.2.2.2.2.1 = 1) (hc : costs (aOrd rs z (H, f :: fs, k, st, sc)) = false) : cwA rs z (aOne T t rs z tr k0 wm cm (H, f :: fs, k, st, sc)) < cwA rs z (H, f :: fs, k, st, sc) := by
  obtain ⟨j, l, seg, rest, ej, F, hk, ty, est, sl, fm, im⟩ := AOK.info P hA ph
  have i5 := P.2.2 f.1 fm im
  obtain ⟨r, hr⟩ : ∃ r, r = aOrd rs z (H, f :: fs, k, st, sc) := ⟨_, rfl⟩
  have hr' : r = ((osM rs z f.1)[k]?).getD oOver := hr
  rw [← hr] at hc
  have hd := of_decide_eq_false hc
  have r2 : ¬ r.1 = 2 := fun h => hd (Or.inr (Or.inl h))
  have big : cwA rs z (H, f :: fs, k, st, sc) = (f :: fs).length * 5001 + (5000 - k) := by
    show (f :: fs).length * 5001 + (if (aOrd rs z (H, f :: fs, k, st, sc)).1 = 2 then 0 else 5000 - k) = _
    rw [← hr, if_neg r2]
  rw [big]
  have fl : (f :: fs).length = fs.length + 1 := rfl
  obtain ⟨sc', hsc⟩ : ∃ y, y = aTick sc (costs r) := ⟨_, rfl⟩
  have eone : aOne T t rs z tr k0 wm cm (H, f :: fs, k, st, sc) = aStep T t.1 (EMx T t tr k0 f.1) j (i0T t f.1) wm cm r (H, f :: fs, k + 1, st, sc') := by
    show aStep T t.1 (EMx T t tr k0 f.1) (jX T t rs z tr k0 f.1 k) (i0T t f.1) wm cm (aOrd rs z (H, f :: fs, k, st, sc)) (H, f :: fs, k + 1, st, aTick sc (costs (aOrd rs z (H, f :: fs, k, st, sc)))) = _
    rw [jX_of ej, ← hr, ← hsc]
  rw [eone]
  have nx : ∀ (H' : HEAP) (f' : FRM) (st' : List Int32) (sc'' : SCL), cwA rs z (H', f' :: fs, k + 1, st', sc'') < (f :: fs).length * 5001 + (5000 - k) := by
    intro H' f' st' sc''
    have := cw_fr (rs := rs) (z := z) (H := H') (f := f') (fs := fs) (kk := k + 1) (st := st') (sc := sc'')
    have e : (f' :: fs).length = fs.length + 1 := rfl
    omega
  have fl0 : ∀ (n p : Int32), cwA rs z (aFail (H, f :: fs, k + 1, st, sc') n p) < (f :: fs).length * 5001 + (5000 - k) := by
    intro n p
    show 0 < _
    omega
  have rt : ∀ (v : Int32) (st' : List Int32), cwA rs z (aRet (H, f :: fs, k + 1, st', sc') f fs v) < (f :: fs).length * 5001 + (5000 - k) := by
    intro v st'
    have := cw_ret (rs := rs) (z := z) (H := H) (f := f) (fs := fs) (kk := k + 1) (st := st') (sc := sc') v
    omega
  have jp : ∀ x r' (st' : List Int32), (x ≤ (osM rs z f.1).length) → ((k < x) ∨ (x ≤ k ∧ (osM rs z f.1)[x]? = some r' ∧ r'.1 = 2)) → cwA rs z (H, f :: fs, x, st', sc') < (f :: fs).length * 5001 + (5000 - k) := by
    intro x r' st' hx h
    rcases h with h | ⟨h1, h2, h3⟩
    · have := cw_fr (rs := rs) (z := z) (H := H) (f := f) (fs := fs) (kk := x) (st := st') (sc := sc')
      omega
    · show (f :: fs).length * 5001 + (if (((osM rs z f.1)[x]?).getD oOver).1 = 2 then 0 else 5000 - x) < _
      rw [h2, if_pos (show (Option.getD (some r') oOver).1 = 2 from h3)]
      omega
  by_cases c1 : r.1 = 1
  · exact absurd (Or.inl c1) hd
  by_cases c3 : r.1 = 3
  · rw [as_3 c3]; exact nx _ _ _ _
  by_cases c4 : r.1 = 4
  · rw [as_4 c4]; exact nx _ _ _ _
  by_cases c5 : r.1 = 5
  · rw [as_5 c5]; exact nx _ _ _ _
  by_cases c6 : r.1 = 6
  · rw [as_6 c6]; exact nx _ _ _ _
  by_cases c7 : r.1 = 7
  · exact absurd (Or.inr (Or.inr (Or.inl c7))) hd
  by_cases c8 : r.1 = 8
  · exact absurd (Or.inr (Or.inr (Or.inr (Or.inl c8)))) hd
  by_cases c9 : r.1 = 9
  · exact absurd (Or.inr (Or.inr (Or.inr (Or.inr (Or.inl c9))))) hd
  by_cases c10 : r.1 = 10
  · exact absurd (Or.inr (Or.inr (Or.inr (Or.inr (Or.inr (Or.inl c10)))))) hd
  by_cases c13 : r.1 = 13
  · exact absurd (Or.inr (Or.inr (Or.inr (Or.inr (Or.inr (Or.inr (Or.inl c13))))))) hd
  by_cases c14 : r.1 = 14
  · exact absurd (Or.inr (Or.inr (Or.inr (Or.inr (Or.inr (Or.inr (Or.inr c14))))))) hd
  by_cases c17 : r.1 = 17
  · rw [as_17 c17]; exact nx _ _ _ _
  by_cases c18 : r.1 = 18
  · rw [as_18 c18]
    by_cases g : st.tail.headD 0 = 0
    · rw [if_pos g]; exact fl0 _ _
    · rw [if_neg g]; exact nx _ _ _ _
  by_cases c20 : r.1 = 20
  · rw [as_20 c20]; exact nx _ _ _ _
  by_cases cj : r.1 = 21 ∨ r.1 = 22 ∨ r.1 = 23
  · have hkr : (osM rs z f.1)[k]? = some r := by
      cases h : (osM rs z f.1)[k]? with
      | none =>
        rw [h] at hr'
        have e28 : r.1 = 28 := by rw [hr']; rfl
        rw [e28] at cj
        exact absurd cj (by decide)
      | some r0 => rw [h] at hr'; rw [hr']; rfl
    obtain ⟨x, x1, x2, x3, _, x5⟩ := P.jump fm im hkr cj
    have x6 : ∃ r', (k < x) ∨ (x ≤ k ∧ (osM rs z f.1)[x]? = some r' ∧ r'.1 = 2) := by
      rcases x5 with ⟨_, h⟩ | ⟨_, h1, r', h2, h3⟩
      · exact ⟨r, Or.inl h⟩
      · exact ⟨r', Or.inr ⟨h1, h2, h3⟩⟩
    obtain ⟨r', x7⟩ := x6
    rcases cj with cj | cj | cj
    · rw [as_21 cj, x3]
      by_cases g : st.headD 0 = 0
      · rw [if_pos g]; exact jp x r' _ x1 x7
      · rw [if_neg g]; exact nx _ _ _ _
    · rw [as_22 (Or.inl cj), x3]; exact jp x r' _ x1 x7
    · rw [as_22 (Or.inr cj), x3]; exact jp x r' _ x1 x7
  by_cases c24 : r.1 = 24
  · rw [as_24 c24]; exact nx _ _ _ _
  by_cases c25 : r.1 = 25
  · rw [as_25 c25]; exact nx _ _ _ _
  by_cases c28 : r.1 = 28
  · rw [as_28 c28]
    by_cases g : r.2.2.1 = 1
    · rw [if_pos g]; exact rt _ _
    · rw [if_neg g]; exact rt _ _
  · have c22 : ¬ (r.1 = 22 ∨ r.1 = 23) := fun h => cj (Or.inr h)
    have c21 : ¬ r.1 = 21 := fun h => cj (Or.inl h)
    have e : aStep T t.1 (EMx T t tr k0 f.1) j (i0T t f.1) wm cm r (H, f :: fs, k + 1, st, sc') = (H, f :: fs, k + 1, st, sc') := by
      unfold aStep
      dsimp only
      rw [if_neg c1, if_neg c3, if_neg c4, if_neg c5, if_neg c6, if_neg c7, if_neg c8, if_neg c9, if_neg c10, if_neg c13, if_neg c14, if_neg c17, if_neg c18, if_neg c20, if_neg c21, if_neg c22, if_neg c24, if_neg c25, if_neg c28]
    rw [e]
    exact nx _ _ _ _
/-- what an order may do, by cases -/
theorem aStep_cs {E : EV} {i0 : Nat} {Pd : AMS → Prop} (nx : ∀ (H' : HEAP) (f' : FRM) (k' : Nat) (st' : List Int32), Pd (H', f' :: fs, k', st', sc)) (sy : ∀ (st' : List Int32) (w : Nat → Int32), Pd (H, f :: fs, kk, st', sc.1, sc.2.1 + 1, w, sc.2.2.2)) (fl : ∀ (n p : Int32), Pd (aFail (H, f :: fs, kk, st, sc) n p)) (rt : ∀ (v : Int32) (st' : List Int32), Pd (aRet (H, f :: fs, kk, st', sc) f fs v)) (cl : ∀ (d o : Nat) (w : Nat → Int32) (st' : List Int32) (mx : Nat), Pd (H, (d, o, -1, w, kk) :: f :: fs, 0, st', mx, sc.2)) : Pd (aStep T L E j i0 wm cm r (H, f :: fs, kk, st, sc)) := by
  by_cases c1 : r.1 = 1
  · rw [as_1 c1]; exact nx _ _ _ _
  by_cases c3 : r.1 = 3
  · rw [as_3 c3]; exact nx _ _ _ _
  by_cases c4 : r.1 = 4
  · rw [as_4 c4]; exact nx _ _ _ _
  by_cases c5 : r.1 = 5
  · rw [as_5 c5]; exact nx _ _ _ _
  by_cases c6 : r.1 = 6
  · rw [as_6 c6]; exact nx _ _ _ _
  by_cases c7 : r.1 = 7
  · rw [as_7 c7]
    cases kdE E r.2.2.1 with
    | none => exact nx _ _ _ _
    | some kx =>
      dsimp only
      by_cases q : wm < bsH T L H H.1 + szO T L (cK kx)
      · rw [if_pos q]; exact fl _ _
      · rw [if_neg q]; exact nx _ _ _ _
  by_cases c8 : r.1 = 8
  · rw [as_8 c8]; exact nx _ _ _ _
  by_cases c9 : r.1 = 9
  · rw [as_9 c9]
    cases two2 r.2.2.1 (st.tail.headD 0) (st.headD 0) with
    | none => exact fl _ _
    | some v => exact nx _ _ _ _
  by_cases c10 : r.1 = 10
  · rw [as_10 c10]
    by_cases q : st.headD 0 = 0
    · rw [if_pos q]; exact fl _ _
    · rw [if_neg q]; exact nx _ _ _ _
  by_cases c13 : r.1 = 13
  · rw [as_13 c13]
    rw [aCall_eq]
    by_cases g1 : st[nN r.2.2.1]?.getD 0 = 0
    · rw [if_pos g1]; exact fl _ _
    rw [if_neg g1]
    by_cases g2 : (f :: fs).length = cm
    · rw [if_pos g2]; exact fl _ _
    rw [if_neg g2]
    cases memT T L (H.2 (nN (st[nN r.2.2.1]?.getD 0))).1 (nkM T L (j.2.1.headD (0, 0)).1) true with
    | none => exact nx _ _ _ _
    | some dd => exact cl _ _ _ _ _
  by_cases c14 : r.1 = 14
  · rw [as_14 c14]
    cases kdE E r.2.2.1 with
    | none => exact nx _ _ _ _
    | some kx =>
      dsimp only
      by_cases q : asO T L H f.1 f.2.1 (st.headD 0) kx = true
      · rw [if_pos q]; exact nx _ _ _ _
      · rw [if_neg q]; exact fl _ _
  by_cases c17 : r.1 = 17
  · rw [as_17 c17]; exact nx _ _ _ _
  by_cases c18 : r.1 = 18
  · rw [as_18 c18]
    by_cases q : st.tail.headD 0 = 0
    · rw [if_pos q]; exact fl _ _
    · rw [if_neg q]; exact nx _ _ _ _
  by_cases c20 : r.1 = 20
  · rw [as_20 c20]; exact nx _ _ _ _
  by_cases c21 : r.1 = 21
  · rw [as_21 c21]
    by_cases q : st.headD 0 = 0
    · rw [if_pos q]; exact nx _ _ _ _
    · rw [if_neg q]; exact nx _ _ _ _
  by_cases c22 : r.1 = 22 ∨ r.1 = 23
  · rw [as_22 c22]; exact nx _ _ _ _
  by_cases c24 : r.1 = 24
  · rw [as_24 c24]; exact sy _ _
  by_cases c25 : r.1 = 25
  · rw [as_25 c25]; exact nx _ _ _ _
  by_cases c28 : r.1 = 28
  · rw [as_28 c28]
    by_cases g : r.2.2.1 = 1
    · rw [if_pos g]; exact rt _ _
    · rw [if_neg g]; exact rt _ _
  have e : aStep T L E j i0 wm cm r (H, f :: fs, kk, st, sc) = (H, f :: fs, kk, st, sc) := by
    unfold aStep
    dsimp only
    rw [if_neg c1, if_neg c3, if_neg c4, if_neg c5, if_neg c6, if_neg c7, if_neg c8, if_neg c9, if_neg c10, if_neg c13, if_neg c14, if_neg c17, if_neg c18, if_neg c20, if_neg c21, if_neg c22, if_neg c24, if_neg c25, if_neg c28]
  rw [e]
  exact nx _ _ _ _
theorem aRet_len {v : Int32} : (aRet (H, f :: fs, kk, st, sc) f fs v).2.1.length ≤ (f :: fs).length + 1 := by
  cases fs with
  | nil => exact Nat.zero_le _
  | cons g gs =>
    show (g :: gs).length ≤ _
    have e0 : (f :: g :: gs).length = (g :: gs).length + 1 := rfl
    omega
/-- any order opens at most one CALL -/
theorem aStep_len {E : EV} {i0 : Nat} : (aStep T L E j i0 wm cm r (H, f :: fs, kk, st, sc)).2.1.length ≤ (f :: fs).length + 1 :=
  aStep_cs (Pd := fun A => A.2.1.length ≤ (f :: fs).length + 1) (fun _ _ _ _ => Nat.le_succ _) (fun _ _ => Nat.le_succ _) (fun _ _ => Nat.zero_le _) (fun _ _ => aRet_len) (fun _ _ _ _ _ => Nat.le_refl _)
end MJB66
