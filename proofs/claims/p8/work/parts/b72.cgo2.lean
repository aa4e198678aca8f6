/-! ===== goOn: STEP by STEP ===== -/
section MJB72
variable {T : TT} {d N k0 kb wm cm pc k q sz i m n nn left sp : Nat} {t : PT} {rs : List RcM} {z : PB} {tr : Bool} {H : HEAP} {r : Row} {f : FRM} {fs : List FRM} {st : List Int32} {sc : SCL} {s s' : mjSt3} {cs : Nat → Nat} {A A1 B : AMS} {x : Ins}
theorem go_round (hq : isP q) (h3 : s.2.2 82 3 = q + 24) (h8 : s.1 82 8 = 1) (h4 : s.1 82 4 = nI pc) (h12 : s.1 82 12 = nI sp) (hI : INS q s pc sz x) (hi : i < nn) (n4 : nn ≤ 2000) (w1 : x.1 < 17 → mjF (d + 7) 87 [.ref 82, .int x.1, .int x.2.1, .int x.2.2] (mjW0 (stN (pcN s (pc + 1)) (sp + 1))) = some (none, mjW0 s')) (w2 : ¬ x.1 < 17 → mjF (d + 7) 85 [.ref 82, .int x.1, .int x.2.2] (mjW0 (stN (pcN s (pc + 1)) (sp + 1))) = some (none, mjW0 s')) : L_75_6 (mjF (d + 7)) (m + 1) 82 (nI nn) (nI i) (mjW0 s) = bN (mjF (d + 7) 76 [.ref 82] (mjW0 s')) (fun hp => L_75_6 (mjF (d + 7)) m 82 (nI nn) (nI (i + 1)) hp) := by
  obtain ⟨⟨a1, a2, a3⟩, a4, a5, a6⟩ := hI
  have hq' : q = 2 ∨ q = 30 := hq
  obtain ⟨s1, g1⟩ : ∃ y, y = pcN s (pc + 1) := ⟨_, rfl⟩
  rw [← g1] at w1 w2
  obtain ⟨s2, g2⟩ : ∃ y, y = stN s1 (sp + 1) := ⟨_, rfl⟩
  rw [← g2] at w1 w2
  have r1 : ∀ h, ¬ h = 82 → s1.1 h = s.1 h := fun h e => by rw [g1]; exact uI_ne _ _ _ _ e
  have r2 : ∀ h, ¬ h = 82 → s2.1 h = s.1 h := fun h e => by rw [g2, ← r1 h e]; exact uI_ne _ _ _ _ e
  have h3' : s1.2.2 82 3 = q + 24 := by rw [g1]; exact h3
  have h3'' : s2.2.2 82 3 = q + 24 := by rw [g2]; exact h3'
  have h12' : s1.1 82 12 = nI sp := by
    rw [g1]
    unfold pcN
    rw [uI_same, upd_g, if_neg (by decide)]
    exact h12
  unfold pcN at g1
  unfold stN at g2
  rw [L75_S]
  unfold b_75_6 b_75_128
  rw [if_neg (nI_ge hi (by omega)), xg_82_8, h8, if_pos rfl, xg_82_4, xg_82_3, h3, ycg_3 hq, a6, h4, if_neg (nI_ge a4 (by omega)), xg_82_4, xg_82_4, h4, nI_1 pc, xp_82_4, ← g1, xg_82_12, h12', nI_1 sp, xp_82_12, ← g2, xg_82_3, h3'', ycg_0 hq, wya_25 hq (by omega), r2 (q + 25) (by omega), a1]
  by_cases g : x.1 < 17
  · rw [if_pos g, xg_82_3, h3'', ycg_0 hq, wya_25 hq (by omega), r2 (q + 25) (by omega), a1, xg_82_3, h3'', ycg_1 hq, wya_26 hq (by omega), r2 (q + 26) (by omega), a2, xg_82_3, h3'', ycg_2 hq, wya_27 hq (by omega), r2 (q + 27) (by omega), a3, xV_82, w1 g, bN_s, xV_82, nI_1 i]
  · rw [if_neg g, xg_82_3, h3'', ycg_0 hq, wya_25 hq (by omega), r2 (q + 25) (by omega), a1, xg_82_3, h3'', ycg_2 hq, wya_27 hq (by omega), r2 (q + 27) (by omega), a3, xV_82, w2 g, bN_s, xV_82, nI_1 i]
theorem go_x0 (n4 : nn ≤ 2000) : L_75_6 (mjF d) (m + 1) 82 (nI nn) (nI nn) (mjW0 s) = some (none, mjW0 s) := by
  rw [L75_S]
  unfold b_75_6
  rw [if_pos (nI_le (Nat.le_refl nn) (by omega))]
theorem go_x1 (h8 : ¬ s.1 82 8 = 1) (hi : i < nn) (n4 : nn ≤ 2000) : L_75_6 (mjF d) (m + 1) 82 (nI nn) (nI i) (mjW0 s) = some (none, mjW0 s) := by
  rw [L75_S]
  unfold b_75_6
  rw [if_neg (nI_ge hi (by omega)), xg_82_8, if_neg h8]
/-- coast, as a call -/
theorem x_76 (P : PRX T N k0 t rs kb z tr) (Y : SYX t rs z) (wm4 : wm ≤ 4000) (cm4 : cm ≤ 40) (h384 : ∀ c, fldT T t.1 c ≤ 384) (p3 : A.2.2.2.2.2.2.2.2.1 ≤ 3) (hY : YI rs z A) (hs : A.2.2.2.2.2.2.2.1 < 100000000) (I : CIn T k0 q t rs z tr cs wm cm A s) : ∃ B s', aCo T t rs z tr k0 wm cm 205041 A = some B ∧ CIn T k0 q t rs z tr cs wm cm B s' ∧ oCn s s' ∧ mjF (d + 7) 76 [.ref 82] (mjW0 s) = some (none, mjW0 s') ∧ YI rs z B ∧ B.2.2.2.2.2.2.2.1 = A.2.2.2.2.2.2.2.1 ∧ rstA rs z B ∧ B.2.2.2.2.2.2.2.2.1 ≤ 3 := by
  have hl : A.2.1.length ≤ 40 := Nat.le_trans I.2.2.2.1.2.2.1 cm4
  have cw := cw_le (rs := rs) (z := z) A
  obtain ⟨B, hB⟩ := aCo_some P wm4 205041 A I.2.2.2.1 (by omega)
  obtain ⟨s', e1, e2, e3, e4, e5, e6, e7⟩ := lq_76 (d := d) P Y wm4 cm4 h384 205041 mjN 0 A B s (by omega) (by unfold mjN; omega) p3 hY hs I hB
  refine ⟨B, s', hB, e1, e2, ?_, e4, e5, e6, e7⟩
  rw [e_76]
  unfold f_76 b_76_0
  exact e3
theorem lq_75 (P : PRX T N k0 t rs kb z tr) (Y : SYX t rs z) (wm4 : wm ≤ 4000) (cm4 : cm ≤ 40) (h384 : ∀ c, fldT T t.1 c ≤ 384) (n4 : nn ≤ 2000) : ∀ (left n m i : Nat) (A B : AMS) (s : mjSt3), i + left = nn → left < m → rstA rs z A → A.2.2.2.2.2.2.2.2.1 ≤ 3 → YI rs z A → A.2.2.2.2.2.2.2.1 + left < 100000000 → CIn T k0 q t rs z tr cs wm cm A s → aRun T t rs z tr k0 wm cm n left A = some B → ∃ s', CIn T k0 q t rs z tr cs wm cm B s' ∧ oCn s s' ∧ L_75_6 (mjF (d + 7)) m 82 (nI nn) (nI i) (mjW0 s) = some (none, mjW0 s') ∧ B.2.2.2.2.2.2.2.2.1 ≤ 3
  | left, 0, m, i, A, B, s, hi, hm, hr, p3, hY, hs, I, h => by cases h
  | left, n + 1, 0, i, A, B, s, hi, hm, hr, p3, hY, hs, I, h => by omega
  | 0, n + 1, m + 1, i, A, B, s, hi, hm, hr, p3, hY, hs, I, h => by
    have hB : B = A := by
      unfold aRun at h
      rcases hr with hr | hr
      · rw [if_pos hr] at h
        exact (Option.some.inj h).symm
      · by_cases ph : A.2.2.2.2.2.2.2.2.1 = 1
        · rw [if_neg (fun g => g ph), if_pos hr, if_pos rfl] at h
          exact (Option.some.inj h).symm
        · rw [if_pos ph] at h
          exact (Option.some.inj h).symm
    rw [hB]
    have ei : i = nn := by omega
    rw [ei]
    exact ⟨s, I, offG.rf, go_x0 n4, p3⟩
  | left + 1, n + 1, m + 1, i, A, B, s, hi, hm, hr, p3, hY, hs, I, h => by
    unfold aRun at h
    by_cases ph : A.2.2.2.2.2.2.2.2.1 = 1
    · have hc : costs (aOrd rs z A) = true := hr.resolve_left (fun g => g ph)
      rw [if_neg (fun g => g ph), if_pos hc, if_neg (Nat.succ_ne_zero left)] at h
      obtain ⟨H, f, fs, k, st, sc, eA, ph'⟩ := I.2.2.2.1.fr ph
      have hq : isP q := I.2.1.1.1.1
      have h3 : s.2.2 82 3 = q + 24 := I.2.1.2.2
      have h8 : s.1 82 8 = 1 := by rw [I.ph8, ph]; rfl
      have I1 := I
      rw [eA] at I1
      have h12 : s.1 82 12 = nI sc.2.2.2.1 := I1.1.1.2.1.1
      have hY1 := hY
      rw [eA] at hY1
      have es : A.2.2.2.2.2.2.2.1 = sc.2.2.2.1 := by rw [eA]
      have hs1 : sc.2.1 < 100000000 := by
        have a1 : sc.2.1 ≤ sc.2.2.2.1 := hY1.le
        omega
      have hY2 := hY1.one P Y I1.2.2.2.1 ph'
      have hl : (f :: fs).length ≤ 40 := Nat.le_trans I1.2.2.2.1.2.2.1 cm4
      have p32 := aStep_sc (T := T) (L := t.1) (E := EMx T t tr k0 f.1) (j := jX T t rs z tr k0 f.1 k) (i0 := i0T t f.1) (wm := wm) (cm := cm) (r := aOrd rs z (H, f :: fs, k, st, sc)) (H := H) (k := k + 1) (st := st) (sc := aTick sc (costs (aOrd rs z (H, f :: fs, k, st, sc)))) I1.2.2.2.2 (show sc.2.2.2.2.1 ≤ 3 by omega) hl
      have p33 : (aOne T t rs z tr k0 wm cm (H, f :: fs, k, st, sc)).2.2.2.2.2.2.2.2.1 ≤ 3 := p32.2.2
      have st2 := aOne_st (T := T) (t := t) (rs := rs) (z := z) (tr := tr) (k0 := k0) (wm := wm) (cm := cm) (H := H) (f := f) (fs := fs) (k := k) (st := st) (sc := sc)
      rw [← eA] at hY2 p33 st2
      rw [if_pos hc] at st2
      cases hkr : (osM rs z f.1)[k]? with
      | none =>
        have ord : aOrd rs z (H, f :: fs, k, st, sc) = oOver := by
          show ((osM rs z f.1)[k]?).getD oOver = oOver
          rw [hkr]
          rfl
        rw [eA, ord] at hc
        exact absurd hc (by decide)
      | some r =>
        have ord : aOrd rs z (H, f :: fs, k, st, sc) = r := by
          show ((osM rs z f.1)[k]?).getD oOver = r
          rw [hkr]
          rfl
        rw [eA, ord] at hc
        rcases one_c (d := d + 1) P wm4 cm4 h384 I1 ph' hs1 hkr with ⟨c1, _⟩ | ⟨x, pc, sz, x1, x2, ⟨_, c1, _⟩ | ⟨x3, c1, s1, w1, w2, w3, w4⟩⟩
        · rw [hc] at c1; cases c1
        · rw [hc] at c1; cases c1
        · rw [← eA] at w4
          obtain ⟨A2, s2, b1, b2', b3, b4, b5, b6, b7, b8⟩ := x_76 (d := d) P Y wm4 cm4 h384 p33 hY2 (by omega) w4
          obtain ⟨n', hn'⟩ := aRun_co _ _ _ _ _ _ b1 h
          obtain ⟨s3, e1, e2, e3, e4⟩ := lq_75 P Y wm4 cm4 h384 n4 left n' m (i + 1) A2 B s2 (by omega) (by omega) b7 b8 b5 (by omega) b2' hn'
          refine ⟨s3, e1, offG.tr w3 (offG.tr b3 e2), ?_, e4⟩
          rw [go_round (d := d) hq h3 h8 x2 h12 x1 (by omega) n4 w1 w2, b4, bN_s]
          exact e3
    · rw [if_pos ph] at h
      have eB := Option.some.inj h
      rw [← eB]
      refine ⟨s, I, offG.rf, go_x1 (fun e => ph ?_) (by omega) n4, p3⟩
      rw [I.ph8] at e
      exact (nI_ph p3).mp e
/-- goOn -/
theorem x_75 (P : PRX T N k0 t rs kb z tr) (Y : SYX t rs z) (wm4 : wm ≤ 4000) (cm4 : cm ≤ 40) (h384 : ∀ c, fldT T t.1 c ≤ 384) (n4 : nn ≤ 2000) (p3 : A.2.2.2.2.2.2.2.2.1 ≤ 3) (hY : YI rs z A) (hs : A.2.2.2.2.2.2.2.1 + nn < 100000000) (I : CIn T k0 q t rs z tr cs wm cm A s) (h : aRun T t rs z tr k0 wm cm n nn A = some B) : ∃ s', CIn T k0 q t rs z tr cs wm cm B s' ∧ oCn s s' ∧ mjF (d + 8) 75 [.ref 82, .int (nI nn)] (mjW0 s) = some (none, mjW0 s') ∧ B.2.2.2.2.2.2.2.2.1 ≤ 3 := by
  obtain ⟨A2, s2, b1, b2', b3, b4, b5, b6, b7, b8⟩ := x_76 (d := d) P Y wm4 cm4 h384 p3 hY (by omega) I
  obtain ⟨n', hn'⟩ := aRun_co _ _ _ _ _ _ b1 h
  obtain ⟨s3, e1, e2, e3, e4⟩ := lq_75 (d := d) P Y wm4 cm4 h384 n4 nn n' mjN 0 A2 B s2 (by omega) (by unfold mjN; omega) b7 b8 b5 (by omega) b2' hn'
  refine ⟨s3, e1, offG.tr b3 e2, ?_, e4⟩
  rw [e_75]
  unfold f_75 b_75_0
  rw [xV_82, b4, bN_s]
  exact e3
end MJB72
