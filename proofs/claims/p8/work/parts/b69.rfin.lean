/-! ===== a RUN of the reference ends ===== -/
section MJB69
variable {T : TT} {d N k0 kb b wm cm k kk n left : Nat} {L : List CD} {t : PT} {rs : List RcM} {z : PB} {tr : Bool} {H : HEAP} {r : Row} {j : JS} {f : FRM} {fs : List FRM} {st : List Int32} {sc : SCL} {A B C : AMS} {s : mjSt3}
theorem aRet_st (v : Int32) : (aRet (H, f :: fs, k, st, sc) f fs v).2.2.2.2.2.2.2.1 = sc.2.2.2.1 := by
  cases fs with
  | nil => rfl
  | cons g gs => rfl
/-- an order itself takes no STEP -/
theorem aStep_st {E : EV} {i0 : Nat} : (aStep T L E j i0 wm cm r (H, f :: fs, kk, st, sc)).2.2.2.2.2.2.2.1 = sc.2.2.2.1 :=
  aStep_cs (Pd := fun A => A.2.2.2.2.2.2.2.1 = sc.2.2.2.1) (fun _ _ _ _ => rfl) (fun _ _ => rfl) (fun _ _ => rfl) (fun v _ => aRet_st v) (fun _ _ _ _ _ => rfl)
theorem aOne_st : (aOne T t rs z tr k0 wm cm (H, f :: fs, k, st, sc)).2.2.2.2.2.2.2.1 = if costs (aOrd rs z (H, f :: fs, k, st, sc)) = true then sc.2.2.2.1 + 1 else sc.2.2.2.1 := aStep_st
theorem aOne_len : (aOne T t rs z tr k0 wm cm (H, f :: fs, k, st, sc)).2.1.length ≤ (f :: fs).length + 1 := aStep_len
theorem AOK.one (P : PRX T N k0 t rs kb z tr) (wm4 : wm ≤ 4000) (hA : AOK T t rs z tr k0 wm cm (H, f :: fs, k, st, sc)) (ph : sc.2.2.2.2.1 = 1) : AOK T t rs z tr k0 wm cm (aOne T t rs z tr k0 wm cm (H, f :: fs, k, st, sc)) := by
  obtain ⟨j, l, seg, rest, ej, F, hk, ty, est, sl, fm, im⟩ := AOK.info P hA ph
  obtain ⟨c, hc⟩ : ∃ c, c = costs (aOrd rs z (H, f :: fs, k, st, sc)) := ⟨_, rfl⟩
  have hA' : AOK T t rs z tr k0 wm cm (H, f :: fs, k, st, aTick sc c) := hA
  have ph' : (aTick sc c).2.2.2.2.1 = 1 := ph
  have hA2 := snd_step (r := aOrd rs z (H, f :: fs, k, st, sc)) P wm4 hA' ph' ej rfl
  have eone : aOne T t rs z tr k0 wm cm (H, f :: fs, k, st, sc) = aStep T t.1 (EMx T t tr k0 f.1) j (i0T t f.1) wm cm (aOrd rs z (H, f :: fs, k, st, sc)) (H, f :: fs, k + 1, st, aTick sc c) := by
    show aStep T t.1 (EMx T t tr k0 f.1) (jX T t rs z tr k0 f.1 k) (i0T t f.1) wm cm (aOrd rs z (H, f :: fs, k, st, sc)) (H, f :: fs, k + 1, st, aTick sc (costs (aOrd rs z (H, f :: fs, k, st, sc)))) = _
    rw [jX_of ej, ← hc]
  rw [eone]
  exact hA2
/-- the CALLS of a RUN that goes on -/
theorem AOK.fr (hA : AOK T t rs z tr k0 wm cm A) (ph : A.2.2.2.2.2.2.2.2.1 = 1) : ∃ H f fs k st sc, A = (H, f :: fs, k, st, sc) ∧ sc.2.2.2.2.1 = 1 := by
  obtain ⟨f, fs, e0, _⟩ := hA.2.2.2.1 ph
  obtain ⟨H, gs, k, st, sc⟩ := A
  have e0' : gs = f :: fs := e0
  exact ⟨H, f, fs, k, st, sc, by rw [e0'], ph⟩
theorem cw_big : (f :: fs).length * 5001 ≤ cwA rs z (H, f :: fs, k, st, sc) := by
  show (f :: fs).length * 5001 ≤ (f :: fs).length * 5001 + (if (aOrd rs z (H, f :: fs, k, st, sc)).1 = 2 then 0 else 5000 - k)
  exact Nat.le_add_right _ _
/-- a RUN has an end, or comes to where no STEP is left -/
theorem aRun_some (P : PRX T N k0 t rs kb z tr) (wm4 : wm ≤ 4000) : ∀ (n left : Nat) (A : AMS), AOK T t rs z tr k0 wm cm A → cwA rs z A + 10003 * left < n → ∃ B, aRun T t rs z tr k0 wm cm n left A = some B
  | 0, left, A, hA, h => by omega
  | n + 1, left, A, hA, h => by
    unfold aRun
    by_cases ph : A.2.2.2.2.2.2.2.2.1 = 1
    · rw [if_neg (fun q => q ph)]
      obtain ⟨H, f, fs, k, st, sc, eA, ph'⟩ := hA.fr ph
      have hA1 := hA
      rw [eA] at hA1
      have hA2 := hA1.one P wm4 ph'
      rw [← eA] at hA2
      by_cases c : costs (aOrd rs z A) = true
      · rw [if_pos c]
        by_cases l0 : left = 0
        · rw [if_pos l0]; exact ⟨A, rfl⟩
        · rw [if_neg l0]
          have w1 := cw_le (rs := rs) (z := z) (aOne T t rs z tr k0 wm cm A)
          have w2 : (aOne T t rs z tr k0 wm cm A).2.1.length ≤ (f :: fs).length + 1 := by rw [eA]; exact aOne_len
          have w3 : (f :: fs).length * 5001 ≤ cwA rs z A := by rw [eA]; exact cw_big
          exact aRun_some P wm4 n (left - 1) _ hA2 (by omega)
      · rw [if_neg c]
        have w : cwA rs z (aOne T t rs z tr k0 wm cm A) < cwA rs z A := by
          rw [eA]
          rw [eA] at c
          exact cw_dec P hA1 ph' (by
            cases q : costs (aOrd rs z (H, f :: fs, k, st, sc)) with
            | true => exact absurd q c
            | false => rfl)
        exact aRun_some P wm4 n left _ hA2 (by omega)
    · rw [if_pos ph]; exact ⟨A, rfl⟩
/-- what holds of a RUN's state, and how far its STEPS went -/
theorem aRun_keep (P : PRX T N k0 t rs kb z tr) (Y : SYX t rs z) (wm4 : wm ≤ 4000) : ∀ (n left : Nat) (A B : AMS), AOK T t rs z tr k0 wm cm A → YI rs z A → aRun T t rs z tr k0 wm cm n left A = some B → AOK T t rs z tr k0 wm cm B ∧ YI rs z B ∧ B.2.2.2.2.2.2.2.1 ≤ A.2.2.2.2.2.2.2.1 + left
  | 0, left, A, B, hA, hY, h => by cases h
  | n + 1, left, A, B, hA, hY, h => by
    unfold aRun at h
    by_cases ph : A.2.2.2.2.2.2.2.2.1 = 1
    · rw [if_neg (fun q => q ph)] at h
      obtain ⟨H, f, fs, k, st, sc, eA, ph'⟩ := hA.fr ph
      have hA1 := hA
      rw [eA] at hA1
      have hY1 := hY
      rw [eA] at hY1
      have hA2 := hA1.one P wm4 ph'
      have hY2 := hY1.one P Y hA1 ph'
      have st2 := aOne_st (T := T) (t := t) (rs := rs) (z := z) (tr := tr) (k0 := k0) (wm := wm) (cm := cm) (H := H) (f := f) (fs := fs) (k := k) (st := st) (sc := sc)
      have es : A.2.2.2.2.2.2.2.1 = sc.2.2.2.1 := by rw [eA]
      rw [← eA] at hA2 hY2 st2
      by_cases c : costs (aOrd rs z A) = true
      · rw [if_pos c] at h st2
        by_cases l0 : left = 0
        · rw [if_pos l0] at h
          have eB := Option.some.inj h
          rw [← eB]
          exact ⟨hA, hY, by omega⟩
        · rw [if_neg l0] at h
          obtain ⟨x1, x2, x3⟩ := aRun_keep P Y wm4 n (left - 1) _ B hA2 hY2 h
          exact ⟨x1, x2, by omega⟩
      · rw [if_neg c] at h st2
        obtain ⟨x1, x2, x3⟩ := aRun_keep P Y wm4 n left _ B hA2 hY2 h
        exact ⟨x1, x2, by omega⟩
    · rw [if_pos ph] at h
      have eB := Option.some.inj h
      rw [← eB]
      exact ⟨hA, hY, by omega⟩
/-- the reference's run is the pure one, by STEPS -/
theorem lq_229b (P : PRX T N (800 * b) t rs kb z tr) (Y : SYX t rs z) (hb : b ≤ 1) (wm4 : wm ≤ 4000) (cm4 : cm ≤ 40) (h384 : ∀ c, fldT T t.1 c ≤ 384) : ∀ (n m left : Nat) (A B : AMS) (s : mjSt3), n + 1 < m → left ≤ 2000 → YI rs z A → A.2.2.2.2.2.2.2.1 + left < 100000000 → RIn T N b t rs z tr wm cm A s → aRun T t rs z tr (800 * b) wm cm n left A = some B → ∃ s', RIn T N b t rs z tr wm cm B s' ∧ oRn s s' ∧ L_229_31 (mjF (d + 6)) m 97 (nI left) (if A.2.2.2.2.2.2.2.2.1 = 1 then 1 else 0) (mjW0 s) = some (some (.int (nI B.2.2.2.2.2.2.2.2.1)), mjW0 s')
  | 0, m, left, A, B, s, hm, hl, hY, hs, I, h => by cases h
  | n + 1, 0, left, A, B, s, hm, hl, hY, hs, I, h => by omega
  | n + 1, m + 1, left, A, B, s, hm, hl, hY, hs, I, h => by
    unfold aRun at h
    by_cases ph : A.2.2.2.2.2.2.2.2.1 = 1
    · rw [if_neg (fun q => q ph)] at h
      rw [if_pos ph]
      obtain ⟨f, fs, e0, _⟩ := I.2.2.2.1.2.2.2.1 ph
      obtain ⟨H, gs, k, st, sc⟩ := A
      have e0' : gs = f :: fs := e0
      subst e0'
      have hs0 : sc.2.2.2.1 + left < 100000000 := hs
      have hs1 : sc.2.1 < 100000000 := by
        have : sc.2.1 ≤ sc.2.2.2.1 := hY.le
        omega
      obtain ⟨c1, c2, c3, s1, I1, o1, c4, c5⟩ := one_229 (d := d) P hb wm4 cm4 h384 I ph hs1
      have hY2 := hY.one P Y I.2.2.2.1 ph
      have st2 := aOne_st (T := T) (t := t) (rs := rs) (z := z) (tr := tr) (k0 := 800 * b) (wm := wm) (cm := cm) (H := H) (f := f) (fs := fs) (k := k) (st := st) (sc := sc)
      have h9 := I.2.2.1
      have ei : (5000 : Int32) * nI b + nI (i0T t f.1 + k) = nI (5000 * b + (i0T t f.1 + k)) := by rw [show (5000 : Int32) = nI 5000 from rfl, nI_mul, nI_add]
      have pre : L_229_31 (mjF (d + 6)) (m + 1) 97 (nI left) 1 (mjW0 s) = (if costs (aOrd rs z (H, f :: fs, k, st, sc)) = true then (if nI left ≤ 0 then b_229_72 (mjF (d + 6)) (L_229_31 (mjF (d + 6)) m) 97 (nI left) (nI (5000 * b + (i0T t f.1 + k))) 0 (mjW0 s) else b_229_72 (mjF (d + 6)) (L_229_31 (mjF (d + 6)) m) 97 (nI left) (nI (5000 * b + (i0T t f.1 + k))) 1 (mjW0 s)) else b_229_93 (mjF (d + 6)) (L_229_31 (mjF (d + 6)) m) 97 (nI left) (nI (5000 * b + (i0T t f.1 + k))) (mjW0 s)) := by
        rw [L229_S]
        unfold b_229_31
        rw [if_neg (show ¬ ((1 : Int32) = 0) by decide), xg_97_9, xg_97_119, xg_97_54, h9, c1, ei, wa_143 (by omega), c3, x_230, bI_s, b2_i]
      by_cases hc : costs (aOrd rs z (H, f :: fs, k, st, sc)) = true
      · rw [if_pos hc] at h c5 st2
        rw [pre, if_pos hc]
        by_cases hz : left = 0
        · rw [if_pos hz] at h
          have eB := Option.some.inj h
          rw [hz, if_pos (show nI 0 ≤ (0 : Int32) by decide), ← eB]
          unfold b_229_72
          rw [if_pos rfl]
          obtain ⟨m2, em⟩ : ∃ m2, m = m2 + 1 := ⟨m - 1, by omega⟩
          rw [em, L229_S]
          unfold b_229_31
          rw [if_pos rfl, xg_97_96, I.1.1.1.1]
          exact ⟨s, I, offG.rf, rfl⟩
        · rw [if_neg hz] at h
          rw [if_neg (nI_nle (by omega) (by omega))]
          unfold b_229_72
          have el : nI left + (-1) = nI (left - 1) := by
            have := nI_m (left - 1)
            rw [show left - 1 + 1 = left by omega] at this
            exact this
          rw [if_neg (show ¬ ((1 : Int32) = 0) by decide), xg_97_100, xp_97_100, el, c5]
          obtain ⟨s2, i1, i2, i4⟩ := lq_229b P Y hb wm4 cm4 h384 n m (left - 1) _ B s1 (by omega) (by omega) hY2 (by omega) I1 h
          exact ⟨s2, i1, offG.tr o1 i2, i4⟩
      · rw [if_neg hc] at h c5 st2
        rw [pre, if_neg hc, c5]
        obtain ⟨s2, i1, i2, i4⟩ := lq_229b P Y hb wm4 cm4 h384 n m left _ B s1 (by omega) hl hY2 (by omega) I1 h
        exact ⟨s2, i1, offG.tr o1 i2, i4⟩
    · rw [if_pos ph] at h
      have eB := Option.some.inj h
      rw [if_neg ph, L229_S, ← eB]
      unfold b_229_31
      rw [if_pos rfl, xg_97_96, I.1.1.1.1]
      exact ⟨s, I, offG.rf, rfl⟩
end MJB69
