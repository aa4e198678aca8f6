section
/-! ===== the class's RUN is the pure one ===== -/
section MJB71
variable {T : TT} {d N k0 kb wm cm pc k q sz i m n nn left steps : Nat} {t : PT} {rs : List RcM} {z : PB} {tr : Bool} {H : HEAP} {r : Row} {f : FRM} {fs : List FRM} {st : List Int32} {sc : SCL} {s s' : mjSt3} {cs : Nat → Nat} {A A1 B : AMS} {x : Ins}
theorem L76_S (R : mjR) (n a : Nat) (i : Int32) (hp : mjH) : L_76_2 R (n + 1) a i hp = b_76_2 R (L_76_2 R n) a i hp := rfl
theorem L75_S (R : mjR) (n a : Nat) (i j : Int32) (hp : mjH) : L_75_6 R (n + 1) a i j hp = b_75_6 R (L_75_6 R n) a i j hp := rfl
theorem x_77 (hq : isP q) (h3 : s.2.2 82 3 = q + 24) (h4 : s.1 82 4 = nI pc) (h : INS q s pc sz x) : mjF (d + 1) 77 [.ref 82] (mjW0 s) = some (some (.int (if (10 : Int32) ≤ x.1 then 0 else 1)), mjW0 s) := by
  obtain ⟨⟨a1, a2, a3⟩, a4, a5, a6⟩ := h
  rw [e_77]
  unfold f_77 b_77_0 b_77_35
  rw [xg_82_4, xg_82_3, h3, ycg_3 hq, a6, h4, if_neg (nI_ge a4 (by omega)), xg_82_3, h3, ycg_0 hq, xg_82_4, h4, wya_25 hq (by omega), a1]
  by_cases g : (10 : Int32) ≤ x.1
  · rw [if_pos g, if_pos g]
  · rw [if_neg g, if_neg g]
/-- a round of coast -/
theorem co_round (hq : isP q) (h3 : s.2.2 82 3 = q + 24) (h8 : s.1 82 8 = 1) (h4 : s.1 82 4 = nI pc) (hI : INS q s pc sz x) (hx : x.1 < 10) (hi : i < 1000000) (w : mjF (d + 6) 78 [.ref 82, .int x.1, .int x.2.1, .int x.2.2] (mjW0 (pcN s (pc + 1))) = some (none, mjW0 s')) : L_76_2 (mjF (d + 6)) (m + 1) 82 (nI i) (mjW0 s) = L_76_2 (mjF (d + 6)) m 82 (nI (i + 1)) (mjW0 s') := by
  have n10 : ¬ (10 : Int32) ≤ x.1 := Int32.not_le.mpr hx
  have x77 := x_77 (d := d + 5) hq h3 h4 hI
  rw [if_neg n10] at x77
  obtain ⟨⟨a1, a2, a3⟩, a4, a5, a6⟩ := hI
  have hq' : q = 2 ∨ q = 30 := hq
  obtain ⟨s1, g1⟩ : ∃ y, y = pcN s (pc + 1) := ⟨_, rfl⟩
  have r1 : ∀ h, ¬ h = 82 → s1.1 h = s.1 h := fun h e => by rw [g1]; exact uI_ne _ _ _ _ e
  have h3' : s1.2.2 82 3 = q + 24 := by rw [g1]; exact h3
  rw [← g1] at w
  unfold pcN at g1
  rw [L76_S]
  unfold b_76_2
  rw [if_neg (show ¬ (1000000 : Int32) ≤ nI i from nI_ge (b := 1000000) hi (by decide)), xg_82_8, h8, if_pos rfl, xV_82, x77, bI_s, if_neg (show ¬ ((1 : Int32) = 0) by decide), xg_82_4, xg_82_4, h4, nI_1 pc, xp_82_4, ← g1, xg_82_3, h3', ycg_0 hq, wya_25 hq (by omega), r1 (q + 25) (by omega), a1, xg_82_3, h3', ycg_1 hq, wya_26 hq (by omega), r1 (q + 26) (by omega), a2, xg_82_3, h3', ycg_2 hq, wya_27 hq (by omega), r1 (q + 27) (by omega), a3, xV_82, w, bN_s, nI_1 i]
theorem co_x1 (h8 : ¬ s.1 82 8 = 1) (hi : i < 1000000) : L_76_2 (mjF d) (m + 1) 82 (nI i) (mjW0 s) = some (none, mjW0 s) := by
  rw [L76_S]
  unfold b_76_2
  rw [if_neg (show ¬ (1000000 : Int32) ≤ nI i from nI_ge (b := 1000000) hi (by decide)), xg_82_8, if_neg h8]
theorem co_x2 (hq : isP q) (h3 : s.2.2 82 3 = q + 24) (h8 : s.1 82 8 = 1) (h4 : s.1 82 4 = nI pc) (hI : INS q s pc sz x) (hx : ¬ x.1 < 10) (hi : i < 1000000) : L_76_2 (mjF (d + 1)) (m + 1) 82 (nI i) (mjW0 s) = some (none, mjW0 s) := by
  have n10 : (10 : Int32) ≤ x.1 := Int32.not_lt.mp hx
  have x77 := x_77 (d := d) hq h3 h4 hI
  rw [if_pos n10] at x77
  rw [L76_S]
  unfold b_76_2
  rw [if_neg (show ¬ (1000000 : Int32) ≤ nI i from nI_ge (b := 1000000) hi (by decide)), xg_82_8, h8, if_pos rfl, xV_82, x77, bI_s, if_pos rfl]
/-- at rest: the RUN has ended, or the next order takes a STEP -/
def rstA (rs : List RcM) (z : PB) (A : AMS) : Prop := (¬ A.2.2.2.2.2.2.2.2.1 = 1) ∨ costs (aOrd rs z A) = true
theorem nI_ph {p : Nat} (h3 : p ≤ 3) : nI p = 1 ↔ p = 1 := nI_eq (b := 1) (by omega) (by omega)
theorem CIn.ph8 (I : CIn T k0 q t rs z tr cs wm cm A s) : s.1 82 8 = nI A.2.2.2.2.2.2.2.2.1 := I.1.1.1.1
/-- coast -/
theorem lq_76 (P : PRX T N k0 t rs kb z tr) (Y : SYX t rs z) (wm4 : wm ≤ 4000) (cm4 : cm ≤ 40) (h384 : ∀ c, fldT T t.1 c ≤ 384) : ∀ (n m i : Nat) (A B : AMS) (s : mjSt3), i + 2 * n < 1000000 → 2 * n + 1 < m → A.2.2.2.2.2.2.2.2.1 ≤ 3 → YI rs z A → A.2.2.2.2.2.2.2.1 < 100000000 → CIn T k0 q t rs z tr cs wm cm A s → aCo T t rs z tr k0 wm cm n A = some B → ∃ s', CIn T k0 q t rs z tr cs wm cm B s' ∧ oCn s s' ∧ L_76_2 (mjF (d + 6)) m 82 (nI i) (mjW0 s) = some (none, mjW0 s') ∧ YI rs z B ∧ B.2.2.2.2.2.2.2.1 = A.2.2.2.2.2.2.2.1 ∧ rstA rs z B ∧ B.2.2.2.2.2.2.2.2.1 ≤ 3
  | 0, m, i, A, B, s, hi, hm, p3, hY, hs, I, h => by cases h
  | n + 1, 0, i, A, B, s, hi, hm, p3, hY, hs, I, h => by omega
  | n + 1, 1, i, A, B, s, hi, hm, p3, hY, hs, I, h => by omega
  | n + 1, m + 2, i, A, B, s, hi, hm, p3, hY, hs, I, h => by
    unfold aCo at h
    by_cases ph : A.2.2.2.2.2.2.2.2.1 = 1
    · rw [if_neg (fun g => g ph)] at h
      obtain ⟨H, f, fs, k, st, sc, eA, ph'⟩ := I.2.2.2.1.fr ph
      have hq : isP q := I.2.1.1.1.1
      have h3 : s.2.2 82 3 = q + 24 := I.2.1.2.2
      have h8 : s.1 82 8 = 1 := by rw [I.ph8, ph]; rfl
      have I1 := I
      rw [eA] at I1
      have hY1 := hY
      rw [eA] at hY1
      have hs1 : sc.2.1 < 100000000 := by
        have a1 : sc.2.1 ≤ sc.2.2.2.1 := hY1.le
        have a2 : A.2.2.2.2.2.2.2.1 = sc.2.2.2.1 := by rw [eA]
        omega
      have hY2 := hY1.one P Y I1.2.2.2.1 ph'
      have hl : (f :: fs).length ≤ 40 := Nat.le_trans I1.2.2.2.1.2.2.1 cm4
      have p32 := aStep_sc (T := T) (L := t.1) (E := EMx T t tr k0 f.1) (j := jX T t rs z tr k0 f.1 k) (i0 := i0T t f.1) (wm := wm) (cm := cm) (r := aOrd rs z (H, f :: fs, k, st, sc)) (H := H) (k := k + 1) (st := st) (sc := aTick sc (costs (aOrd rs z (H, f :: fs, k, st, sc)))) I1.2.2.2.2 (show sc.2.2.2.2.1 ≤ 3 by omega) hl
      have p33 : (aOne T t rs z tr k0 wm cm (H, f :: fs, k, st, sc)).2.2.2.2.2.2.2.2.1 ≤ 3 := p32.2.2
      have st2 := aOne_st (T := T) (t := t) (rs := rs) (z := z) (tr := tr) (k0 := k0) (wm := wm) (cm := cm) (H := H) (f := f) (fs := fs) (k := k) (st := st) (sc := sc)
      have es : A.2.2.2.2.2.2.2.1 = sc.2.2.2.1 := by rw [eA]
      cases hkr : (osM rs z f.1)[k]? with
      | none =>
        have ord : aOrd rs z (H, f :: fs, k, st, sc) = oOver := by
          show ((osM rs z f.1)[k]?).getD oOver = oOver
          rw [hkr]
          rfl
        have nc : ¬ costs (aOrd rs z A) = true := by rw [eA, ord]; decide
        rw [if_neg nc] at h
        rw [← eA] at ord st2 hY2 p33
        rw [if_neg nc] at st2
        obtain ⟨pc, sz, s1, s2, j1, j2, j3, j4, j5, j6, j7, j8, j9, j10⟩ := end_c (d := d) P wm4 cm4 I1 ph' hkr
        rw [← eA] at j10
        obtain ⟨s', e1, e2, e3, e4, e5, e6, e7⟩ := lq_76 P Y wm4 cm4 h384 n m (i + 2) _ B s2 (by omega) (by omega) p33 hY2 (by omega) j10 h
        refine ⟨s', e1, offG.tr j9 e2, ?_, e4, by omega, e6, e7⟩
        rw [co_round hq h3 h8 j3 j1 (show (0 : Int32) < 10 by decide) (by omega) j4, co_round hq j7 j6 j5 j2 (show (9 : Int32) < 10 by decide) (by omega) j8]
        exact e3
      | some r =>
        have ord : aOrd rs z (H, f :: fs, k, st, sc) = r := by
          show ((osM rs z f.1)[k]?).getD oOver = r
          rw [hkr]
          rfl
        have o1 := one_c (d := d) P wm4 cm4 h384 I1 ph' hs1 hkr
        rw [← eA] at ord o1 st2 hY2 p33
        rw [ord] at h st2
        by_cases c : costs r = true
        · rw [if_pos c] at h
          have eB := Option.some.inj h
          rw [← eB]
          refine ⟨s, I, offG.rf, ?_, hY, rfl, Or.inr (by rw [ord]; exact c), p3⟩
          rcases o1 with ⟨c1, _⟩ | ⟨x, pc, sz, x1, x2, ⟨_, c1, _⟩ | ⟨x3, _⟩⟩
          · rw [c] at c1; cases c1
          · rw [c] at c1; cases c1
          · exact co_x2 hq h3 h8 x2 x1 x3 (by omega)
        · rw [if_neg c] at h st2
          rcases o1 with ⟨c1, c2⟩ | ⟨x, pc, sz, x1, x2, ⟨x3, c1, s1, w1, w2, w3⟩ | ⟨x3, c1, _⟩⟩
          · obtain ⟨s', e1, e2, e3, e4, e5, e6, e7⟩ := lq_76 P Y wm4 cm4 h384 n (m + 2) i _ B s (by omega) (by omega) p33 hY2 (by omega) c2 h
            exact ⟨s', e1, e2, e3, e4, by omega, e6, e7⟩
          · obtain ⟨s', e1, e2, e3, e4, e5, e6, e7⟩ := lq_76 P Y wm4 cm4 h384 n (m + 1) (i + 1) _ B s1 (by omega) (by omega) p33 hY2 (by omega) w3 h
            refine ⟨s', e1, offG.tr w2 e2, ?_, e4, by omega, e6, e7⟩
            rw [co_round hq h3 h8 x2 x1 x3 (by omega) w1]
            exact e3
          · exact absurd c1 c
    · rw [if_pos ph] at h
      have eB := Option.some.inj h
      rw [← eB]
      refine ⟨s, I, offG.rf, co_x1 (fun e => ph ?_) (by omega), hY, rfl, Or.inl ph, p3⟩
      rw [I.ph8] at e
      exact (nI_ph p3).mp e
theorem aCo_some (P : PRX T N k0 t rs kb z tr) (wm4 : wm ≤ 4000) : ∀ (n : Nat) (A : AMS), AOK T t rs z tr k0 wm cm A → cwA rs z A < n → ∃ B, aCo T t rs z tr k0 wm cm n A = some B
  | 0, A, hA, h => by omega
  | n + 1, A, hA, h => by
    unfold aCo
    by_cases ph : A.2.2.2.2.2.2.2.2.1 = 1
    · rw [if_neg (fun g => g ph)]
      obtain ⟨H, f, fs, k, st, sc, eA, ph'⟩ := hA.fr ph
      have hA1 := hA
      rw [eA] at hA1
      have hA2 := hA1.one P wm4 ph'
      rw [← eA] at hA2
      by_cases c : costs (aOrd rs z A) = true
      · rw [if_pos c]; exact ⟨A, rfl⟩
      · rw [if_neg c]
        have w : cwA rs z (aOne T t rs z tr k0 wm cm A) < cwA rs z A := by
          rw [eA]
          rw [eA] at c
          exact cw_dec P hA1 ph' (by
            cases g : costs (aOrd rs z (H, f :: fs, k, st, sc)) with
            | true => exact absurd g c
            | false => rfl)
        exact aCo_some P wm4 n _ hA2 (by omega)
    · rw [if_pos ph]; exact ⟨A, rfl⟩
/-- a RUN from behind what takes no STEP -/
theorem aRun_co : ∀ (m n left : Nat) (A A1 B : AMS), aCo T t rs z tr k0 wm cm m A = some A1 → aRun T t rs z tr k0 wm cm n left A = some B → ∃ n', aRun T t rs z tr k0 wm cm n' left A1 = some B
  | 0, n, left, A, A1, B, h, g => by cases h
  | m + 1, 0, left, A, A1, B, h, g => by cases g
  | m + 1, n + 1, left, A, A1, B, h, g => by
    unfold aCo at h
    by_cases ph : A.2.2.2.2.2.2.2.2.1 = 1
    · rw [if_neg (fun e => e ph)] at h
      by_cases c : costs (aOrd rs z A) = true
      · rw [if_pos c] at h
        have e := Option.some.inj h
        rw [← e]
        exact ⟨n + 1, g⟩
      · rw [if_neg c] at h
        unfold aRun at g
        rw [if_neg (fun e => e ph), if_neg c] at g
        exact aRun_co m n left _ A1 B h g
    · rw [if_pos ph] at h
      have e := Option.some.inj h
      rw [← e]
      exact ⟨n + 1, g⟩
end MJB71
end
section
/-! ===== goOn: STEP by STEP ===== -/
section MJB72
variable {T : TT} {d N k0 kb wm cm pc k q sz i m n nn left sp : Nat} {t : PT} {rs : List RcM} {z : PB} {tr : Bool} {H : HEAP} {r : Row} {f : FRM} {fs : List FRM} {st : List Int32} {sc : SCL} {s s' : mjSt3} {cs : Nat → Nat} {A A1 B : AMS} {x : Ins}
theorem go_round (hq : isP q) (h3 : s.2.2 82 3 = q + 24) (h8 : s.1 82 8 = 1) (h4 : s.1 82 4 = nI pc) (h12 : s.1 82 12 = nI sp) (hI : INS q s pc sz x) (hi : i < nn) (n4 : nn ≤ 2000) (w1 : x.1 < 17 → mjF (d + 7) 87 [.ref 82, .int x.1, .int x.2.1, .int x.2.2] (mjW0 (stN (pcN s (pc + 1)) (sp + 1))) = some (none, mjW0 s')) (w2 : ¬ x.1 < 17 → mjF (d + 7) 85 [.ref 82, .int x.1, .int x.2.2] (mjW0 (stN (pcN s (pc + 1)) (sp + 1))) = some (none, mjW0 s')) : L_75_6 (mjF (d + 7)) (m + 1) 82 (nI nn) (nI i) (mjW0 s) = bN (mjF (d + 7) 76 [.ref 82] (mjW0 s')) (fun hp => L_75_6 (mjF (d + 7)) m 82 (nI nn) (nI (i + 1)) hp) := by
  obtain ⟨⟨a1, a2, a3⟩, a4, a5, a6⟩ := hI
  have hq' : q = 2 ∨ q = 30 := hq
  obtain ⟨s1, g1⟩ : ∃ y, y = pcN s (pc + 1) := ⟨_, rfl⟩
  rw [← g1] at w1 w2
  obtain ⟨s2, g2⟩ : ∃ y, y = stN s1 (sp + 1) := ⟨_, rfl⟩
  rw [← g2] at w1 w2
  have r1 : ∀ h, ¬ h = 82 → s1.1 h = s.1 h := fun h e => by rw [g1]; exact uI_ne _ _ _ _ e
  have r2 : ∀ h, ¬ h = 82 → s2.1 h = s.1 h := fun h e => by rw [g2, ← r1 h e]; exact uI_ne _ _ _ _ e
  have h3' : s1.2.2 82 3 = q + 24 := by rw [g1]; exact h3
  have h3'' : s2.2.2 82 3 = q + 24 := by rw [g2]; exact h3'
  have h12' : s1.1 82 12 = nI sp := by
    rw [g1]
    unfold pcN
    rw [uI_same, upd_g, if_neg (by decide)]
    exact h12
  unfold pcN at g1
  unfold stN at g2
  rw [L75_S]
  unfold b_75_6 b_75_128
  rw [if_neg (nI_ge hi (by omega)), xg_82_8, h8, if_pos rfl, xg_82_4, xg_82_3, h3, ycg_3 hq, a6, h4, if_neg (nI_ge a4 (by omega)), xg_82_4, xg_82_4, h4, nI_1 pc, xp_82_4, ← g1, xg_82_12, h12', nI_1 sp, xp_82_12, ← g2, xg_82_3, h3'', ycg_0 hq, wya_25 hq (by omega), r2 (q + 25) (by omega), a1]
  by_cases g : x.1 < 17
  · rw [if_pos g, xg_82_3, h3'', ycg_0 hq, wya_25 hq (by omega), r2 (q + 25) (by omega), a1, xg_82_3, h3'', ycg_1 hq, wya_26 hq (by omega), r2 (q + 26) (by omega), a2, xg_82_3, h3'', ycg_2 hq, wya_27 hq (by omega), r2 (q + 27) (by omega), a3, xV_82, w1 g, bN_s, xV_82, nI_1 i]
  · rw [if_neg g, xg_82_3, h3'', ycg_0 hq, wya_25 hq (by omega), r2 (q + 25) (by omega), a1, xg_82_3, h3'', ycg_2 hq, wya_27 hq (by omega), r2 (q + 27) (by omega), a3, xV_82, w2 g, bN_s, xV_82, nI_1 i]
theorem go_x0 (n4 : nn ≤ 2000) : L_75_6 (mjF d) (m + 1) 82 (nI nn) (nI nn) (mjW0 s) = some (none, mjW0 s) := by
  rw [L75_S]
  unfold b_75_6
  rw [if_pos (nI_le (Nat.le_refl nn) (by omega))]
theorem go_x1 (h8 : ¬ s.1 82 8 = 1) (hi : i < nn) (n4 : nn ≤ 2000) : L_75_6 (mjF d) (m + 1) 82 (nI nn) (nI i) (mjW0 s) = some (none, mjW0 s) := by
  rw [L75_S]
  unfold b_75_6
  rw [if_neg (nI_ge hi (by omega)), xg_82_8, if_neg h8]
/-- coast, as a call -/
theorem x_76 (P : PRX T N k0 t rs kb z tr) (Y : SYX t rs z) (wm4 : wm ≤ 4000) (cm4 : cm ≤ 40) (h384 : ∀ c, fldT T t.1 c ≤ 384) (p3 : A.2.2.2.2.2.2.2.2.1 ≤ 3) (hY : YI rs z A) (hs : A.2.2.2.2.2.2.2.1 < 100000000) (I : CIn T k0 q t rs z tr cs wm cm A s) : ∃ B s', aCo T t rs z tr k0 wm cm 205041 A = some B ∧ CIn T k0 q t rs z tr cs wm cm B s' ∧ oCn s s' ∧ mjF (d + 7) 76 [.ref 82] (mjW0 s) = some (none, mjW0 s') ∧ YI rs z B ∧ B.2.2.2.2.2.2.2.1 = A.2.2.2.2.2.2.2.1 ∧ rstA rs z B ∧ B.2.2.2.2.2.2.2.2.1 ≤ 3 := by
  have hl : A.2.1.length ≤ 40 := Nat.le_trans I.2.2.2.1.2.2.1 cm4
  have cw := cw_le (rs := rs) (z := z) A
  obtain ⟨B, hB⟩ := aCo_some P wm4 205041 A I.2.2.2.1 (by omega)
  obtain ⟨s', e1, e2, e3, e4, e5, e6, e7⟩ := lq_76 (d := d) P Y wm4 cm4 h384 205041 mjN 0 A B s (by omega) (by unfold mjN; omega) p3 hY hs I hB
  refine ⟨B, s', hB, e1, e2, ?_, e4, e5, e6, e7⟩
  rw [e_76]
  unfold f_76 b_76_0
  exact e3
theorem lq_75 (P : PRX T N k0 t rs kb z tr) (Y : SYX t rs z) (wm4 : wm ≤ 4000) (cm4 : cm ≤ 40) (h384 : ∀ c, fldT T t.1 c ≤ 384) (n4 : nn ≤ 2000) : ∀ (left n m i : Nat) (A B : AMS) (s : mjSt3), i + left = nn → left < m → rstA rs z A → A.2.2.2.2.2.2.2.2.1 ≤ 3 → YI rs z A → A.2.2.2.2.2.2.2.1 + left < 100000000 → CIn T k0 q t rs z tr cs wm cm A s → aRun T t rs z tr k0 wm cm n left A = some B → ∃ s', CIn T k0 q t rs z tr cs wm cm B s' ∧ oCn s s' ∧ L_75_6 (mjF (d + 7)) m 82 (nI nn) (nI i) (mjW0 s) = some (none, mjW0 s') ∧ B.2.2.2.2.2.2.2.2.1 ≤ 3
  | left, 0, m, i, A, B, s, hi, hm, hr, p3, hY, hs, I, h => by cases h
  | left, n + 1, 0, i, A, B, s, hi, hm, hr, p3, hY, hs, I, h => by omega
  | 0, n + 1, m + 1, i, A, B, s, hi, hm, hr, p3, hY, hs, I, h => by
    have hB : B = A := by
      unfold aRun at h
      rcases hr with hr | hr
      · rw [if_pos hr] at h
        exact (Option.some.inj h).symm
      · by_cases ph : A.2.2.2.2.2.2.2.2.1 = 1
        · rw [if_neg (fun g => g ph), if_pos hr, if_pos rfl] at h
          exact (Option.some.inj h).symm
        · rw [if_pos ph] at h
          exact (Option.some.inj h).symm
    rw [hB]
    have ei : i = nn := by omega
    rw [ei]
    exact ⟨s, I, offG.rf, go_x0 n4, p3⟩
  | left + 1, n + 1, m + 1, i, A, B, s, hi, hm, hr, p3, hY, hs, I, h => by
    unfold aRun at h
    by_cases ph : A.2.2.2.2.2.2.2.2.1 = 1
    · have hc : costs (aOrd rs z A) = true := hr.resolve_left (fun g => g ph)
      rw [if_neg (fun g => g ph), if_pos hc, if_neg (Nat.succ_ne_zero left)] at h
      obtain ⟨H, f, fs, k, st, sc, eA, ph'⟩ := I.2.2.2.1.fr ph
      have hq : isP q := I.2.1.1.1.1
      have h3 : s.2.2 82 3 = q + 24 := I.2.1.2.2
      have h8 : s.1 82 8 = 1 := by rw [I.ph8, ph]; rfl
      have I1 := I
      rw [eA] at I1
      have h12 : s.1 82 12 = nI sc.2.2.2.1 := I1.1.1.2.1.1
      have hY1 := hY
      rw [eA] at hY1
      have es : A.2.2.2.2.2.2.2.1 = sc.2.2.2.1 := by rw [eA]
      have hs1 : sc.2.1 < 100000000 := by
        have a1 : sc.2.1 ≤ sc.2.2.2.1 := hY1.le
        omega
      have hY2 := hY1.one P Y I1.2.2.2.1 ph'
      have hl : (f :: fs).length ≤ 40 := Nat.le_trans I1.2.2.2.1.2.2.1 cm4
      have p32 := aStep_sc (T := T) (L := t.1) (E := EMx T t tr k0 f.1) (j := jX T t rs z tr k0 f.1 k) (i0 := i0T t f.1) (wm := wm) (cm := cm) (r := aOrd rs z (H, f :: fs, k, st, sc)) (H := H) (k := k + 1) (st := st) (sc := aTick sc (costs (aOrd rs z (H, f :: fs, k, st, sc)))) I1.2.2.2.2 (show sc.2.2.2.2.1 ≤ 3 by omega) hl
      have p33 : (aOne T t rs z tr k0 wm cm (H, f :: fs, k, st, sc)).2.2.2.2.2.2.2.2.1 ≤ 3 := p32.2.2
      have st2 := aOne_st (T := T) (t := t) (rs := rs) (z := z) (tr := tr) (k0 := k0) (wm := wm) (cm := cm) (H := H) (f := f) (fs := fs) (k := k) (st := st) (sc := sc)
      rw [← eA] at hY2 p33 st2
      rw [if_pos hc] at st2
      cases hkr : (osM rs z f.1)[k]? with
      | none =>
        have ord : aOrd rs z (H, f :: fs, k, st, sc) = oOver := by
          show ((osM rs z f.1)[k]?).getD oOver = oOver
          rw [hkr]
          rfl
        rw [eA, ord] at hc
        exact absurd hc (by decide)
      | some r =>
        have ord : aOrd rs z (H, f :: fs, k, st, sc) = r := by
          show ((osM rs z f.1)[k]?).getD oOver = r
          rw [hkr]
          rfl
        rw [eA, ord] at hc
        rcases one_c (d := d + 1) P wm4 cm4 h384 I1 ph' hs1 hkr with ⟨c1, _⟩ | ⟨x, pc, sz, x1, x2, ⟨_, c1, _⟩ | ⟨x3, c1, s1, w1, w2, w3, w4⟩⟩
        · rw [hc] at c1; cases c1
        · rw [hc] at c1; cases c1
        · rw [← eA] at w4
          obtain ⟨A2, s2, b1, b2', b3, b4, b5, b6, b7, b8⟩ := x_76 (d := d) P Y wm4 cm4 h384 p33 hY2 (by omega) w4
          obtain ⟨n', hn'⟩ := aRun_co _ _ _ _ _ _ b1 h
          obtain ⟨s3, e1, e2, e3, e4⟩ := lq_75 P Y wm4 cm4 h384 n4 left n' m (i + 1) A2 B s2 (by omega) (by omega) b7 b8 b5 (by omega) b2' hn'
          refine ⟨s3, e1, offG.tr w3 (offG.tr b3 e2), ?_, e4⟩
          rw [go_round (d := d) hq h3 h8 x2 h12 x1 (by omega) n4 w1 w2, b4, bN_s]
          exact e3
    · rw [if_pos ph] at h
      have eB := Option.some.inj h
      rw [← eB]
      refine ⟨s, I, offG.rf, go_x1 (fun e => ph ?_) (by omega) n4, p3⟩
      rw [I.ph8] at e
      exact (nI_ph p3).mp e
/-- goOn -/
theorem x_75 (P : PRX T N k0 t rs kb z tr) (Y : SYX t rs z) (wm4 : wm ≤ 4000) (cm4 : cm ≤ 40) (h384 : ∀ c, fldT T t.1 c ≤ 384) (n4 : nn ≤ 2000) (p3 : A.2.2.2.2.2.2.2.2.1 ≤ 3) (hY : YI rs z A) (hs : A.2.2.2.2.2.2.2.1 + nn < 100000000) (I : CIn T k0 q t rs z tr cs wm cm A s) (h : aRun T t rs z tr k0 wm cm n nn A = some B) : ∃ s', CIn T k0 q t rs z tr cs wm cm B s' ∧ oCn s s' ∧ mjF (d + 8) 75 [.ref 82, .int (nI nn)] (mjW0 s) = some (none, mjW0 s') ∧ B.2.2.2.2.2.2.2.2.1 ≤ 3 := by
  obtain ⟨A2, s2, b1, b2', b3, b4, b5, b6, b7, b8⟩ := x_76 (d := d) P Y wm4 cm4 h384 p3 hY (by omega) I
  obtain ⟨n', hn'⟩ := aRun_co _ _ _ _ _ _ b1 h
  obtain ⟨s3, e1, e2, e3, e4⟩ := lq_75 (d := d) P Y wm4 cm4 h384 n4 nn n' mjN 0 A2 B s2 (by omega) (by unfold mjN; omega) b7 b8 b5 (by omega) b2' hn'
  refine ⟨s3, e1, offG.tr b3 e2, ?_, e4⟩
  rw [e_75]
  unfold f_75 b_75_0
  rw [xV_82, b4, bN_s]
  exact e3
end MJB72
end
section
/-! ===== an accepted program: what a RUN stands on ===== -/
/-- what was judged in a bank still stands there -/
def RKP (b : Nat) (s0 s : mjSt3) : Prop := (∀ h j, inB b h j → s.1 h j = s0.1 h j) ∧ ∀ h j, inBL b h j → s.2.1 h j = s0.2.1 h j
def JKP (T : TT) (N b : Nat) (t : PT) (rs : List RcM) (z : PB) (tr : Bool) (s : mjSt3) : Prop := ∃ s0, JBI T N b t rs z tr (fun _ => True) s0 ∧ RKP b s0 s
section MJB73
variable {T : TT} {N b kb q : Nat} {L : List CD} {t : PT} {rs : List RcM} {z : PB} {tr : Bool} {s s' : mjSt3}
theorem PRX_of (R : TRc T N (800 * b) t rs kb z) (hN : N ≤ 3000) (B : HBd T N b t rs kb z tr) (ok : OKz T (800 * b) t rs z tr) (hh : ∀ m, m < nMem t.1 → hmM t.1 m < t.1.length) : PRX T N (800 * b) t rs kb z tr ∧ SYX t rs z := by
  obtain ⟨B1, B2, ⟨Ac, od, PM, om, T0⟩, o5, m384, k75, hb⟩ := B
  have F : ∀ m, m ≤ 384 → isMT t.1 m = true → ∃ o, o ≤ 1 ∧ prS T (N + 1) 30 0 o (btT t m) (npT t.1 m) (kqT T rs kb m) (i0T t m) = .inr (zT rs z m) := fun m hm im => (MBk_ex R (show 800 * b ≤ 1000 by omega) hN m hm im).1
  refine ⟨⟨⟨Ac, fun m hm => ⟨ok.1.2.2.2.2.2 m hm, (PM m hm).2.2.2.2.1, hh m hm⟩, fun m hm im => ?_⟩, m384, fun m hm im => ?_⟩, fun m hm im => ?_⟩
  · obtain ⟨o, ho, k1⟩ := F m hm im
    refine ⟨prS_gg 30 0 o _ _ _ _ _ (by omega) (by omega) k1, (B1 m hm im).1, ?_⟩
    cases h : jrun (EmT T t.1 tr (ktL (800 * b) t.2.2.1) m) (osM rs z m) (jmT T t.1 m) with
    | none => exact absurd h (ok.2 m hm im)
    | some x => exact ⟨x.1, x.2, rfl⟩
  · have sb := (B1 m hm im).2.2.2.1
    have e1 := sb (osM rs z m).length oOver (by
      show ((osM rs z m) ++ [oOver])[(osM rs z m).length]? = some oOver
      rw [List.getElem?_append_right (Nat.le_refl _), Nat.sub_self]
      rfl)
    have e2 := (List.getElem?_eq_some_iff.mp e1).1
    omega
  · obtain ⟨o, ho, k1⟩ := F m hm im
    exact (prS_sy 30 0 o _ _ _ _ _ (by omega) (by omega) k1).1
theorem fld_384 (h16 : L.length ≤ 16) (h24 : ∀ (c : Nat) (E : CD), L[c]? = some E → E.2.length ≤ 24) : ∀ c, fldT T L c ≤ 384 := by
  intro c
  have h24' : ∀ x, oflL L x ≤ 24 := by
    intro x
    unfold oflL
    cases hx : L[x]? with
    | none => show 0 ≤ 24; omega
    | some D =>
      have := h24 x D hx
      have := cnt_le false D.2
      show cntB false D.2 ≤ 24
      omega
  exact fsum_le h24' h16
theorem inB_97 {h j : Nat} (x : inB b h j) : 100 ≤ h ∧ h ≤ 184 := by
  rcases x with x | x | x | x | x | x | x | x | x | x | x
  · omega
  · omega
  · omega
  · omega
  · omega
  · omega
  · omega
  · omega
  · omega
  · omega
  · omega
theorem inB_nr {h j : Nat} (x : inB b h j) : 100 ≤ h ∧ (h ≤ 146 ∨ h = 184) := by
  rcases x with x | x | x | x | x | x | x | x | x | x | x
  · omega
  · omega
  · omega
  · omega
  · omega
  · omega
  · omega
  · omega
  · omega
  · omega
  · omega
theorem JKP.keep (h : JKP T N b t rs z tr s) (e1 : ∀ h j, inB b h j → s'.1 h j = s.1 h j) (e2 : ∀ h j, inBL b h j → s'.2.1 h j = s.2.1 h j) : JKP T N b t rs z tr s' := by
  obtain ⟨s0, J, k1, k2⟩ := h
  exact ⟨s0, J, fun h j x => (e1 h j x).trans (k1 h j x), fun h j x => (e2 h j x).trans (k2 h j x)⟩
/-- a RUN of the reference leaves it -/
theorem JKP.rn (h : JKP T N b t rs z tr s) (o : oRn s s') : JKP T N b t rs z tr s' := h.keep (fun h j x => o.1 h j (fun c => by have := inB_nr x; unfold chRn at c; omega)) (fun h j _ => o.2.1 h j (fun e => e))
/-- what is done on the class's side, too -/
theorem JKP.lo (h : JKP T N b t rs z tr s) (e1 : ∀ h, 97 ≤ h → s'.1 h = s.1 h) (e2 : ∀ h, 97 ≤ h → s'.2.1 h = s.2.1 h) : JKP T N b t rs z tr s' := h.keep (fun h j x => by rw [e1 h (by have := inB_97 x; omega)]) (fun h j x => by rw [e2 h (by unfold inBL at x; omega)])
theorem RPG.c97 (G : RPG T b t rs z tr s) (e1 : ∀ h, ¬ h = 97 → s'.1 h = s.1 h) (l : s'.2.1 = s.2.1) : RPG T b t rs z tr s' := by
  have q : ∀ h, (100 ≤ h ∧ h ≤ 147) → s'.1 h = s.1 h := fun h hh => e1 h (by omega)
  obtain ⟨⟨g1, g2⟩, g3, ⟨g4, g5, g6⟩, g7, g8, g9⟩ := G
  refine ⟨⟨fun c hc => by rw [q 104 (by omega)]; exact g1 c hc, fun x hx => (g2 x hx).cg (q 105 (by omega)) (q 138 (by omega)) (q 139 (by omega)) (q 142 (by omega))⟩, fun c hc => by rw [q 109 (by omega)]; exact g3 c hc, ⟨fun a ha => by rw [q 107 (by omega), q 108 (by omega)]; exact g4 a ha, g5, fun m hm => by rw [l, q 125 (by omega)]; exact g6 m hm⟩, fun m hm => by rw [q 124 (by omega), q 129 (by omega)]; exact g7 m hm, by rw [q 123 (by omega)]; exact g8, fun m hm im => ?_⟩
  obtain ⟨d1, d2⟩ := g9 m hm im
  have rw' : ∀ (i : Nat) (r : Row), Rw s i r → Rw s' i r := fun i r h => ⟨by rw [q 143 (by omega)]; exact h.1, by rw [q 144 (by omega)]; exact h.2.1, by rw [q 145 (by omega)]; exact h.2.2.1, by rw [q 146 (by omega)]; exact h.2.2.2.1, by rw [l]; exact h.2.2.2.2⟩
  refine ⟨fun k r hk j1 l1 hj => ?_, rw' _ _ d2⟩
  obtain ⟨a1, a2⟩ := d1 k r hk j1 l1 hj
  exact ⟨rw' _ _ a1, fun h kk hkk => (a2 h kk hkk).cg (q 138 (by omega)) (q 139 (by omega)) (q 142 (by omega))⟩
/-- the bank's fields laid back -/
theorem JKP.jbi (B : HBd T N b t rs kb z tr) (h : JKP T N b t rs z tr s) : ∃ s2, JBI T N b t rs z tr (fun _ => True) s2 ∧ (∀ h, ¬ h = 97 → s2.1 h = s.1 h) ∧ s2.2 = s.2 ∧ ∀ j, ¬ (j = 63 ∨ j = 129) → s2.1 97 j = s.1 97 j := by
  obtain ⟨s0, J, k1, k2⟩ := h
  obtain ⟨s1, g1⟩ : ∃ y, y = uI s 97 (upd (s.1 97) 63 (s0.1 97 63)) := ⟨_, rfl⟩
  obtain ⟨s2, g2⟩ : ∃ y, y = uI s1 97 (upd (s1.1 97) 129 (s0.1 97 129)) := ⟨_, rfl⟩
  have v1 : ∀ j, s1.1 97 j = if j = 63 then s0.1 97 63 else s.1 97 j := fun j => by rw [g1, uI_same, upd_g]
  have v2 : ∀ j, s2.1 97 j = if j = 129 then s0.1 97 129 else s1.1 97 j := fun j => by rw [g2, uI_same, upd_g]
  have r2 : ∀ h, ¬ h = 97 → s2.1 h = s.1 h := fun h e => by rw [g2, uI_ne _ _ _ _ e, g1, uI_ne _ _ _ _ e]
  have l2 : s2.2 = s.2 := by rw [g2, g1]; rfl
  refine ⟨s2, J.loc B ⟨⟨?_, ?_⟩, fun h j x => ?_, fun h j x => ?_⟩, r2, l2, fun j hj => ?_⟩
  · rw [v2, if_neg (by decide), v1, if_pos rfl]
  · rw [v2, if_pos rfl]
  · rw [r2 h (by have := inB_97 x; omega)]; exact k1 h j x
  · rw [l2]; exact k2 h j x
  · rw [v2, if_neg (by omega), v1, if_neg (by omega)]
theorem JKP.rpg (B : HBd T N b t rs kb z tr) (h : JKP T N b t rs z tr s) : RPG T b t rs z tr s := by
  obtain ⟨s2, J, e1, e2, _⟩ := h.jbi B
  have om := B.2.2.1.2.2.2.1
  exact (RPG_of J (fun m hm => (om m hm).2.1)).c97 (fun h hh => (e1 h hh).symm) (by rw [e2])
end MJB73
end
section
/-! ===== start ===== -/
/-- a RUN that begins -/
def aBeg : AMS := ((0, fun _ => (0, fun _ => 0, fun _ => 0)), [(384, 0, -1, (fun _ => 0), 0)], 0, [], 1, 0, (fun _ => 0), 0, 1, 0, 0, -1)
section MJB74
variable {T : TT} {d N k0 b wm cm q p0 : Nat} {L : List CD} {t : PT} {rs : List RcM} {z : PB} {tr : Bool} {s : mjSt3} {pf : Nat → Nat → Nat}
theorem aBeg_ok (h1 : 1 ≤ cm) : AOK T t rs z tr k0 wm cm aBeg := by
  refine ⟨fun o o1 o2 => ?_, Nat.zero_le _, h1, fun _ => ⟨(384, 0, -1, (fun _ => 0), 0), [], rfl, ⟨Or.inl ⟨rfl, rfl⟩, fun v _ => vOK.zero⟩, Nat.zero_le _, jmT T t.1 384, [], [], [], rfl, ?_, rfl, rfl, rfl⟩, fun h => absurd rfl h⟩
  · have o2' : o ≤ 0 := o2
    omega
  · exact trivial
theorem aBeg_y : YI rs z aBeg := ⟨0, ⟨0, 0, Nat.le_refl _, fun h => absurd h inY_0, trivial⟩, Nat.le_refl _⟩
/-- add, main's CALL -/
theorem x_37m (h0 : s.1 83 0 = nI 0) (h1 : s.1 83 1 = nI 0) : ∃ s', mjF (d + 3) 37 [.ref 83, .int 384, .int 0, .int 0] (mjW0 s) = some (none, mjW0 s') ∧ s'.1 84 0 = 384 ∧ s'.1 85 0 = 0 ∧ s'.1 87 0 = -1 ∧ (∀ v, v < 16 → s'.1 88 v = 0) ∧ s'.1 83 0 = 1 ∧ s'.1 83 1 = 1 ∧ (∀ h, ¬ (83 ≤ h ∧ h ≤ 88) → s'.1 h = s.1 h) ∧ s'.2 = s.2 := by
  obtain ⟨z1, g1⟩ : ∃ y, y = uI s 84 (upd (s.1 84) 0 384) := ⟨_, rfl⟩
  obtain ⟨z2, g2⟩ : ∃ y, y = uI z1 85 (upd (z1.1 85) 0 0) := ⟨_, rfl⟩
  obtain ⟨z3, g3⟩ : ∃ y, y = uI z2 86 (upd (z2.1 86) 0 0) := ⟨_, rfl⟩
  obtain ⟨z4, g4⟩ : ∃ y, y = uI z3 87 (upd (z3.1 87) 0 (-1)) := ⟨_, rfl⟩
  obtain ⟨z5, g5⟩ : ∃ y, y = uI z4 88 (fillF (z4.1 88) 0 16 0) := ⟨_, rfl⟩
  obtain ⟨z6, g6⟩ : ∃ y, y = uI z5 83 (upd (z5.1 83) 0 (nI 1)) := ⟨_, rfl⟩
  obtain ⟨z7, g7⟩ : ∃ y, y = uI z6 83 (upd (z6.1 83) 1 (nI 1)) := ⟨_, rfl⟩
  have e1 : z1.1 83 = s.1 83 := by rw [g1, uI_ne _ _ _ _ (by decide)]
  have e2 : z2.1 83 = s.1 83 := by rw [g2, uI_ne _ _ _ _ (by decide), e1]
  have e3 : z3.1 83 = s.1 83 := by rw [g3, uI_ne _ _ _ _ (by decide), e2]
  have e4 : z4.1 83 = s.1 83 := by rw [g4, uI_ne _ _ _ _ (by decide), e3]
  have e5 : z5.1 83 = s.1 83 := by rw [g5, uI_ne _ _ _ _ (by decide), e4]
  have v6 : ∀ j, z6.1 83 j = if j = 0 then nI 1 else s.1 83 j := fun j => by rw [g6, uI_same, upd_g, e5]
  refine ⟨z7, ?_, ?_, ?_, ?_, fun v hv => ?_, ?_, ?_, fun h e => ?_, by rw [g7, g6, g5, g4, g3, g2, g1]; rfl⟩
  · rw [e_37]
    unfold f_37 b_37_0
    rw [xg_83_0, h0, if_pos (show nI 0 < (40 : Int32) by decide), xg_83_2, xg_83_0, h0, ws_84 (show 0 < 40 by decide), ← g1, xg_83_3, xg_83_0, e1, h0, ws_85 (show 0 < 40 by decide), ← g2, xg_83_4, xg_83_0, e2, h0, ws_86 (show 0 < 40 by decide), ← g3, xg_83_5, xg_83_0, e3, h0, ws_87 (show 0 < 40 by decide), ← g4, xg_83_0, e4, h0, xg_83_6, show nI 0 * (16 : Int32) = nI 0 from rfl, show nI 0 + (16 : Int32) = nI 16 from rfl, q_379 tT_88 (by decide) (by omega) (by omega), bN_s, ← g5, xg_83_0, e5, h0, nI_1, xp_83_0, ← g6, xg_83_1, xg_83_0, v6, v6, if_neg (show ¬ 1 = 0 by decide), if_pos rfl, h1, q_max, if_neg (show ¬ nI (0 + 1) ≤ nI 0 by decide), bI_s, xp_83_1, show nI (0 + 1) = nI 1 from rfl, ← g7]
  · rw [g7, uI_ne _ _ _ _ (by decide), g6, uI_ne _ _ _ _ (by decide), g5, uI_ne _ _ _ _ (by decide), g4, uI_ne _ _ _ _ (by decide), g3, uI_ne _ _ _ _ (by decide), g2, uI_ne _ _ _ _ (by decide), g1, uI_same, upd_g, if_pos rfl]
  · rw [g7, uI_ne _ _ _ _ (by decide), g6, uI_ne _ _ _ _ (by decide), g5, uI_ne _ _ _ _ (by decide), g4, uI_ne _ _ _ _ (by decide), g3, uI_ne _ _ _ _ (by decide), g2, uI_same, upd_g, if_pos rfl]
  · rw [g7, uI_ne _ _ _ _ (by decide), g6, uI_ne _ _ _ _ (by decide), g5, uI_ne _ _ _ _ (by decide), g4, uI_same, upd_g, if_pos rfl]
  · rw [g7, uI_ne _ _ _ _ (by decide), g6, uI_ne _ _ _ _ (by decide), g5, uI_same]
    show (if 0 ≤ v ∧ v < 16 then 0 else z4.1 88 v) = 0
    rw [if_pos ⟨Nat.zero_le _, hv⟩]
  · rw [g7, uI_same, upd_g, if_neg (by decide), v6, if_pos rfl]; rfl
  · rw [g7, uI_same, upd_g, if_pos rfl]; rfl
  · rw [g7, uI_ne _ _ _ _ (by omega), g6, uI_ne _ _ _ _ (by omega), g5, uI_ne _ _ _ _ (by omega), g4, uI_ne _ _ _ _ (by omega), g3, uI_ne _ _ _ _ (by omega), g2, uI_ne _ _ _ _ (by omega), g1, uI_ne _ _ _ _ (by omega)]
/-- begin -/
theorem x_74 (hq : isP q) (hst : s.1 (q + 23) 384 = nI (pf 384 0)) : ∃ s', mjF (d + 4) 74 [.ref 82, .ref q, .int (nI wm), .int (nI cm)] (mjW0 s) = some (none, mjW0 s') ∧ (s'.2.2 82 2 = q ∧ s'.2.2 82 3 = q + 24 ∧ ∀ h, ¬ h = 82 → s'.2.2 h = s.2.2 h) ∧ s'.2.1 = s.2.1 ∧ (∀ h, ¬ (79 ≤ h ∧ h ≤ 88) → s'.1 h = s.1 h) ∧ CRn T L pf wm cm (pf 384 0) aBeg s' := by
  have hq' : q = 2 ∨ q = 30 := hq
  obtain ⟨s1, a1, a2, a3, ⟨a4, a5⟩, ⟨a6, a7, a8⟩, a9, a10⟩ := x_73 (d := d + 1) (s := s)
  obtain ⟨s2, g2⟩ : ∃ y, y = uR s1 82 (updR (s1.2.2 82) 2 q) := ⟨_, rfl⟩
  obtain ⟨s3, g3⟩ : ∃ y, y = uR s2 82 (updR (s2.2.2 82) 3 (q + 24)) := ⟨_, rfl⟩
  obtain ⟨s4, g4⟩ : ∃ y, y = uI s3 82 (upd (s3.1 82) 7 (nI cm)) := ⟨_, rfl⟩
  obtain ⟨s5, c1, c2, c3, c4, c5, c6⟩ := x_42 (d := d + 2) (s := s4) (nI wm)
  obtain ⟨s6, g6⟩ : ∃ y, y = uI s5 82 (upd (s5.1 82) 8 1) := ⟨_, rfl⟩
  have i3 : s3.1 = s1.1 := by rw [g3, g2]; rfl
  have i4 : ∀ h j, s4.1 h j = if h = 82 ∧ j = 7 then nI cm else s1.1 h j := by
    intro h j
    rw [g4]
    by_cases e : h = 82
    · rw [e, uI_same, upd_g, i3]
      by_cases e2 : j = 7
      · rw [if_pos e2, if_pos ⟨rfl, e2⟩]
      · rw [if_neg e2, if_neg (fun x => e2 x.2)]
    · rw [uI_ne _ _ _ _ e, i3, if_neg (fun x => e x.1)]
  have i6 : ∀ h j, s6.1 h j = if h = 82 ∧ j = 8 then 1 else s5.1 h j := by
    intro h j
    rw [g6]
    by_cases e : h = 82
    · rw [e, uI_same, upd_g]
      by_cases e2 : j = 8
      · rw [if_pos e2, if_pos ⟨rfl, e2⟩]
      · rw [if_neg e2, if_neg (fun x => e2 x.2)]
    · rw [uI_ne _ _ _ _ e, if_neg (fun x => e x.1)]
  have i5 : ∀ h j, ¬ (h = 79 ∧ 2 ≤ j ∧ j ≤ 4) → s5.1 h j = if h = 82 ∧ j = 7 then nI cm else s1.1 h j := fun h j e => (c5 h j e).trans (i4 h j)
  obtain ⟨s7, d1, d2, d3, d4, d5, d6, d7, d8, d9⟩ := x_37m (d := d) (s := s6) (by rw [i6, if_neg (by omega), i5 _ _ (by omega), if_neg (by omega)]; exact a4) (by rw [i6, if_neg (by omega), i5 _ _ (by omega), if_neg (by omega)]; exact a5)
  obtain ⟨s8, g8⟩ : ∃ y, y = uI s7 82 (upd (s7.1 82) 4 (nI (pf 384 0))) := ⟨_, rfl⟩
  have rf2 : s7.2.2 = s3.2.2 := by rw [d9, g6, show (uI s5 82 (upd (s5.1 82) 8 1)).2 = s5.2 from rfl, c6, g4]; rfl
  have rf3 : ∀ h j, s3.2.2 h j = if h = 82 ∧ j = 3 then q + 24 else if h = 82 ∧ j = 2 then q else s.2.2 h j := by
    intro h j
    have e10 : s1.2.2 = s.2.2 := by rw [a10]
    by_cases e : h = 82
    · rw [e, g3, uR_same]
      show (if j = 3 then q + 24 else s2.2.2 82 j) = _
      rw [g2, uR_same]
      show (if j = 3 then q + 24 else if j = 2 then q else s1.2.2 82 j) = _
      rw [e10]
      by_cases e3 : j = 3
      · rw [if_pos e3, if_pos ⟨rfl, e3⟩]
      · rw [if_neg e3, if_neg (show ¬ ((82 : Nat) = 82 ∧ j = 3) from fun x => e3 x.2)]
        by_cases e2 : j = 2
        · rw [if_pos e2, if_pos (show (82 : Nat) = 82 ∧ j = 2 from ⟨rfl, e2⟩)]
        · rw [if_neg e2, if_neg (show ¬ ((82 : Nat) = 82 ∧ j = 2) from fun x => e2 x.2)]
    · rw [g3, uR_ne _ _ _ _ e, g2, uR_ne _ _ _ _ e, e10, if_neg (fun x => e x.1), if_neg (fun x => e x.1)]
  have r7 : s7.2.2 82 2 = q := by rw [rf2, rf3, if_neg (by omega), if_pos ⟨rfl, rfl⟩]
  have lo : ∀ h, ¬ (79 ≤ h ∧ h ≤ 88) → s7.1 h = s.1 h := fun h e => by
    rw [d8 h (by omega)]
    funext j
    rw [i6, if_neg (by omega), i5 h j (by omega), if_neg (by omega), a9 h j (by omega)]
  have v8 : ∀ j, s8.1 82 j = if j = 4 then nI (pf 384 0) else if j = 8 then 1 else if j = 7 then nI cm else s1.1 82 j := by
    intro j
    rw [g8, uI_same, upd_g, d8 82 (by omega), i6, i5 82 j (by omega)]
    by_cases e4 : j = 4
    · rw [if_pos e4, if_pos e4]
    · rw [if_neg e4, if_neg e4]
      by_cases e8 : j = 8
      · rw [if_pos ⟨rfl, e8⟩, if_pos e8]
      · rw [if_neg (fun x => e8 x.2), if_neg e8]
        by_cases e7 : j = 7
        · rw [if_pos ⟨rfl, e7⟩, if_pos e7]
        · rw [if_neg (fun x => e7 x.2), if_neg e7]
  have o8 : ∀ h, ¬ h = 82 → s8.1 h = s7.1 h := fun h e => by rw [g8, uI_ne _ _ _ _ e]
  have h79 : ∀ j, s8.1 79 j = s5.1 79 j := fun j => by rw [o8 79 (by decide), d8 79 (by omega), i6, if_neg (by omega)]
  refine ⟨s8, ?_, ⟨by rw [g8]; exact r7, ?_, fun h e => ?_⟩, ?_, fun h e => by rw [o8 h (by omega), lo h e], ?_⟩
  · rw [e_74]
    unfold f_74 b_74_0
    rw [xV_82, a1, bN_s, xp_82_2, ← g2, yg_15 hq, xp_82_3, ← g3, xp_82_7, ← g4, xg_82_0, xV_79, c1, bN_s, xp_82_8, ← g6, xg_82_1, xV_83, d1, bN_s, xg_82_2, r7, yg_14 hq, ymg_9 hq, show (384 : Int32) = nI 384 from rfl, wya_23 hq (by decide), lo (q + 23) (by omega), hst, xp_82_4, ← g8]
  · rw [g8]
    show s7.2.2 82 3 = q + 24
    rw [rf2, rf3, if_pos ⟨rfl, rfl⟩]
  · rw [g8]
    show s7.2.2 h = s.2.2 h
    funext j
    rw [rf2, rf3, if_neg (fun x => e x.1), if_neg (fun x => e x.1)]
  · rw [g8]
    show s7.2.1 = s.2.1
    rw [d9, g6, show (uI s5 82 (upd (s5.1 82) 8 1)).2 = s5.2 from rfl, c6, g4]
    show s3.2.1 = s.2.1
    rw [g3, g2]
    show s1.2.1 = s.2.1
    rw [a10]
  · refine ⟨⟨⟨by rw [v8, if_neg (by decide), if_pos rfl]; rfl, by rw [v8, if_neg (by decide), if_neg (by decide), if_neg (by decide), a2 9 (by omega)]; rfl, by rw [v8, if_neg (by decide), if_neg (by decide), if_neg (by decide), a2 10 (by omega)]; rfl, by rw [v8, if_neg (by decide), if_neg (by decide), if_neg (by decide), a3]; rfl⟩, ⟨by rw [v8, if_neg (by decide), if_neg (by decide), if_neg (by decide), a2 12 (by omega)]; rfl, by rw [o8 83 (by decide), d7]; rfl, by rw [v8, if_neg (by decide), if_neg (by decide), if_neg (by decide), a2 13 (by omega)]; rfl⟩, ⟨by rw [h79, c3]; rfl, by rw [h79, c2]; rfl, by rw [o8 83 (by decide), d6]; rfl⟩, ⟨by rw [h79, c4], by rw [v8, if_neg (by decide), if_neg (by decide), if_pos rfl]⟩, fun i h1 h2 => absurd h2 (Nat.not_lt_zero i)⟩, fun o o1 o2 => ?_, ⟨⟨by show s8.1 84 0 = _; rw [o8 84 (by decide), d2]; rfl, by show s8.1 85 0 = _; rw [o8 85 (by decide), d3]; rfl, by show s8.1 87 0 = _; rw [o8 87 (by decide), d4], fun v hv => by show s8.1 88 (16 * 0 + v) = 0; rw [o8 88 (by decide), show 16 * 0 + v = v by omega]; exact d5 v hv, fun g gs hg => by cases hg⟩, trivial⟩, fun f fs hf => ⟨by rw [v8, if_pos rfl], by rw [v8, if_neg (by decide), if_neg (by decide), if_neg (by decide), a2 6 (by omega)]; rfl, trivial⟩⟩
    have o2' : o ≤ 0 := o2
    omega
end MJB74
end
section
/-! ===== start, the reference ===== -/
def oRs : mjSt3 → mjSt3 → Prop := offG (fun h j => chRn h j ∨ (h = 97 ∧ j = 126)) (fun _ _ => False)
section MJB75
variable {T : TT} {d b wm cm : Nat} {t : PT} {s : mjSt3}
theorem L340_S (R : mjR) (n a : Nat) (i : Int32) (hp : mjH) : L_340_121 R (n + 1) a i hp = b_340_121 R (L_340_121 R n) a i hp := rfl
theorem lq_340 (R : mjR) (hb : b ≤ 1) : ∀ (r i n : Nat) (s : mjSt3), i + r = 16 → r < n → (∀ v, v < i → s.1 175 v = 0) → s.1 97 9 = nI b → ∃ s', L_340_121 R n 97 (nI i) (mjW0 s) = some (some (.int 1), mjW0 s') ∧ (∀ v, v < 16 → s'.1 175 v = 0) ∧ s'.1 97 119 = s.1 123 b ∧ (∀ h, ¬ (h = 97 ∨ h = 175) → s'.1 h = s.1 h) ∧ (∀ j, ¬ (j = 119 ∨ j = 126) → s'.1 97 j = s.1 97 j) ∧ s'.2 = s.2 ∧ s'.1 97 126 = 0
  | r, i, 0, s, e, hr, hv, h9 => by omega
  | 0, i, n + 1, s, e, hr, hv, h9 => by
    have ei : i = 16 := by omega
    subst ei
    obtain ⟨z1, g1⟩ : ∃ y, y = uI s 97 (upd (s.1 97) 119 (s.1 123 b)) := ⟨_, rfl⟩
    obtain ⟨z2, g2⟩ : ∃ y, y = uI z1 97 (upd (z1.1 97) 126 0) := ⟨_, rfl⟩
    have rr : ∀ h, ¬ h = 97 → z2.1 h = s.1 h := fun h e => by rw [g2, uI_ne _ _ _ _ e, g1, uI_ne _ _ _ _ e]
    have v97 : ∀ j, z2.1 97 j = if j = 126 then 0 else if j = 119 then s.1 123 b else s.1 97 j := fun j => by rw [g2, uI_same, upd_g, g1, uI_same, upd_g]
    refine ⟨z2, ?_, fun v hh => by rw [rr 175 (by decide)]; exact hv v hh, by rw [v97, if_neg (by decide), if_pos rfl], fun h e => rr h (by omega), fun j e => by rw [v97, if_neg (by omega), if_neg (by omega)], by rw [g2, g1]; rfl, by rw [v97, if_pos rfl]⟩
    rw [L340_S]
    unfold b_340_121
    rw [if_pos (show (16 : Int32) ≤ nI 16 by decide), xg_97_34, xg_97_9, h9, wa_123 (by omega), xp_97_119, ← g1, xp_97_126 (by decide), ← g2]
  | r + 1, i, n + 1, s, e, hr, hv, h9 => by
    obtain ⟨z1, g1⟩ : ∃ y, y = uI s 175 (upd (s.1 175) i 0) := ⟨_, rfl⟩
    have rr : ∀ h, ¬ h = 175 → z1.1 h = s.1 h := fun h e => by rw [g1, uI_ne _ _ _ _ e]
    have v1 : ∀ j, z1.1 175 j = if j = i then 0 else s.1 175 j := fun j => by rw [g1, uI_same, upd_g]
    obtain ⟨s', a1, a2, a3, a4, a5, a6, a7⟩ := lq_340 R hb r (i + 1) n z1 (by omega) (by omega) (fun v hv' => by
      rw [v1]
      by_cases q : v = i
      · rw [if_pos q]
      · rw [if_neg q]; exact hv v (by omega)) (by rw [rr 97 (by decide)]; exact h9)
    refine ⟨s', ?_, a2, by rw [a3, rr 123 (by decide)], fun h e => by rw [a4 h e, rr h (by omega)], fun j e => by rw [a5 j e, rr 97 (by decide)], by rw [a6, g1]; rfl, a7⟩
    rw [L340_S]
    unfold b_340_121
    rw [if_neg (show ¬ (16 : Int32) ≤ nI i from nI_ge (b := 16) (by omega) (by decide)), xg_97_115, ws_175 (by omega), ← g1, nI_1]
    exact a1

/-- start -/
theorem x_340 (hb : b ≤ 1) (h10 : s.1 97 10 = 1) (h9 : s.1 97 9 = nI b) (w8 : 8 ≤ wm) (wm4 : wm ≤ 4000) (c1 : 1 ≤ cm) (cm4 : cm ≤ 40) (h123 : s.1 123 b = nI (i0T t 384)) : ∃ s', mjF (d + 1) 340 [.ref 97, .int (nI wm), .int (nI cm)] (mjW0 s) = some (some (.int 1), mjW0 s') ∧ MRn T t b wm cm aBeg s' ∧ oRs s s' ∧ s'.1 97 126 = 0 := by
  obtain ⟨z1, g1⟩ : ∃ y, y = uI s 97 (upd (s.1 97) 96 (1)) := ⟨_, rfl⟩
  obtain ⟨z2, g2⟩ : ∃ y, y = uI z1 97 (upd (z1.1 97) 97 (0)) := ⟨_, rfl⟩
  obtain ⟨z3, g3⟩ : ∃ y, y = uI z2 97 (upd (z2.1 97) 98 (0)) := ⟨_, rfl⟩
  obtain ⟨z4, g4⟩ : ∃ y, y = uI z3 97 (upd (z3.1 97) 99 (-1)) := ⟨_, rfl⟩
  obtain ⟨z5, g5⟩ : ∃ y, y = uI z4 97 (upd (z4.1 97) 100 (0)) := ⟨_, rfl⟩
  obtain ⟨z6, g6⟩ : ∃ y, y = uI z5 97 (upd (z5.1 97) 101 (nI wm)) := ⟨_, rfl⟩
  obtain ⟨z7, g7⟩ : ∃ y, y = uI z6 97 (upd (z6.1 97) 102 (0)) := ⟨_, rfl⟩
  obtain ⟨z8, g8⟩ : ∃ y, y = uI z7 97 (upd (z7.1 97) 103 (0)) := ⟨_, rfl⟩
  obtain ⟨z9, g9⟩ : ∃ y, y = uI z8 97 (upd (z8.1 97) 104 (nI cm)) := ⟨_, rfl⟩
  obtain ⟨z10, g10⟩ : ∃ y, y = uI z9 97 (upd (z9.1 97) 105 (1)) := ⟨_, rfl⟩
  obtain ⟨z11, g11⟩ : ∃ y, y = uI z10 97 (upd (z10.1 97) 106 (0)) := ⟨_, rfl⟩
  obtain ⟨z12, g12⟩ : ∃ y, y = uI z11 97 (upd (z11.1 97) 116 (1)) := ⟨_, rfl⟩
  obtain ⟨z13, g13⟩ : ∃ y, y = uI z12 97 (upd (z12.1 97) 118 (0)) := ⟨_, rfl⟩
  obtain ⟨z14, g14⟩ : ∃ y, y = uI z13 171 (upd (z13.1 171) 0 (-1)) := ⟨_, rfl⟩
  obtain ⟨z15, g15⟩ : ∃ y, y = uI z14 172 (upd (z14.1 172) 0 (0)) := ⟨_, rfl⟩
  obtain ⟨z16, g16⟩ : ∃ y, y = uI z15 173 (upd (z15.1 173) 0 (-1)) := ⟨_, rfl⟩
  have v97 : ∀ j, z16.1 97 j = if j = 118 then (0) else if j = 116 then (1) else if j = 106 then (0) else if j = 105 then (1) else if j = 104 then (nI cm) else if j = 103 then (0) else if j = 102 then (0) else if j = 101 then (nI wm) else if j = 100 then (0) else if j = 99 then (-1) else if j = 98 then (0) else if j = 97 then (0) else if j = 96 then (1) else s.1 97 j := fun j => by rw [g16, uI_ne _ _ _ _ (by decide), g15, uI_ne _ _ _ _ (by decide), g14, uI_ne _ _ _ _ (by decide), g13, uI_same, upd_g, g12, uI_same, upd_g, g11, uI_same, upd_g, g10, uI_same, upd_g, g9, uI_same, upd_g, g8, uI_same, upd_g, g7, uI_same, upd_g, g6, uI_same, upd_g, g5, uI_same, upd_g, g4, uI_same, upd_g, g3, uI_same, upd_g, g2, uI_same, upd_g, g1, uI_same, upd_g]
  have rr : ∀ h, ¬ (h = 97 ∨ (171 ≤ h ∧ h ≤ 173)) → z16.1 h = s.1 h := fun h e => by rw [g16, uI_ne _ _ _ _ (by omega), g15, uI_ne _ _ _ _ (by omega), g14, uI_ne _ _ _ _ (by omega), g13, uI_ne _ _ _ _ (by omega), g12, uI_ne _ _ _ _ (by omega), g11, uI_ne _ _ _ _ (by omega), g10, uI_ne _ _ _ _ (by omega), g9, uI_ne _ _ _ _ (by omega), g8, uI_ne _ _ _ _ (by omega), g7, uI_ne _ _ _ _ (by omega), g6, uI_ne _ _ _ _ (by omega), g5, uI_ne _ _ _ _ (by omega), g4, uI_ne _ _ _ _ (by omega), g3, uI_ne _ _ _ _ (by omega), g2, uI_ne _ _ _ _ (by omega), g1, uI_ne _ _ _ _ (by omega)]
  have h9' : z16.1 97 9 = nI b := by rw [v97]; exact h9
  have v171 : z16.1 171 0 = -1 := by rw [g16, uI_ne _ _ _ _ (by decide), g15, uI_ne _ _ _ _ (by decide), g14, uI_same, upd_g, if_pos rfl]
  have v172 : z16.1 172 0 = 0 := by rw [g16, uI_ne _ _ _ _ (by decide), g15, uI_same, upd_g, if_pos rfl]
  have v173 : z16.1 173 0 = -1 := by rw [g16, uI_same, upd_g, if_pos rfl]
  have lz : z16.2 = s.2 := by rw [g16, g15, g14, g13, g12, g11, g10, g9, g8, g7, g6, g5, g4, g3, g2, g1]; rfl
  obtain ⟨s', a1, a2, a3, a4, a5, a6, a7⟩ := lq_340 (mjF d) hb 16 0 mjN z16 (by omega) (by unfold mjN; omega) (fun v hv => absurd hv (Nat.not_lt_zero v)) h9'
  have u : ∀ j, ¬ (j = 119 ∨ j = 126) → s'.1 97 j = z16.1 97 j := a5
  have r5 : ∀ h, ¬ (h = 97 ∨ h = 175) → s'.1 h = z16.1 h := a4
  refine ⟨s', ?_, ?_, ?_, a7⟩
  · rw [e_340]
    unfold f_340 b_340_0
    rw [xg_97_10, h10, if_neg (show ¬ ((1 : Int32) = 0) by decide), if_neg (show ¬ nI wm < (8 : Int32) from nI_nlt (b := 8) w8 (by omega)), if_neg (show ¬ (4000 : Int32) < nI wm from nI_nlt (a := 4000) wm4 (by omega)), if_neg (show ¬ nI cm < (1 : Int32) from nI_nlt (b := 1) c1 (by omega)), if_pos (show nI cm ≤ (40 : Int32) from nI_le (b := 40) cm4 (by omega)), xp_97_96, ← g1, xp_97_97, ← g2, xp_97_98, ← g3, xp_97_99, ← g4, xp_97_100, ← g5, xp_97_101, ← g6, xp_97_102, ← g7, xp_97_103, ← g8, xp_97_104, ← g9, xp_97_105, ← g10, xp_97_106, ← g11, xp_97_116, ← g12, xp_97_118, ← g13, xg_97_111, show sI (mjW0 z13) 171 (0 : Int32) = sI (mjW0 z13) 171 (nI 0) from rfl, ws_171 (show 0 < 40 by decide), ← g14, xg_97_112, show sI (mjW0 z14) 172 (0 : Int32) = sI (mjW0 z14) 172 (nI 0) from rfl, ws_172 (show 0 < 40 by decide), ← g15, xg_97_113, show sI (mjW0 z15) 173 (0 : Int32) = sI (mjW0 z15) 173 (nI 0) from rfl, ws_173 (show 0 < 40 by decide), ← g16]
    exact a1
  · have f : ∀ j x, ¬ (j = 119 ∨ j = 126) → z16.1 97 j = x → s'.1 97 j = x := fun j x hj hx => (u j hj).trans hx
    refine ⟨⟨⟨f 96 _ (by omega) (by rw [v97]; rfl), f 97 _ (by omega) (by rw [v97]; rfl), f 98 _ (by omega) (by rw [v97]; rfl), f 99 _ (by omega) (by rw [v97]; rfl)⟩, ⟨f 100 _ (by omega) (by rw [v97]; rfl), f 105 _ (by omega) (by rw [v97]; rfl), f 106 _ (by omega) (by rw [v97]; rfl)⟩, ⟨f 102 _ (by omega) (by rw [v97]; rfl), f 103 _ (by omega) (by rw [v97]; rfl), f 116 _ (by omega) (by rw [v97]; rfl)⟩, ⟨f 101 _ (by omega) (by rw [v97]; rfl), f 104 _ (by omega) (by rw [v97]; rfl)⟩, fun i h1 h2 => absurd h2 (Nat.not_lt_zero i)⟩, fun o o1 o2 => ?_, ⟨⟨by show s'.1 171 0 = _; rw [r5 171 (by omega), v171]; rfl, by show s'.1 172 0 = _; rw [r5 172 (by omega), v172]; rfl, by show s'.1 173 0 = _; rw [r5 173 (by omega), v173], fun v hv => by show s'.1 175 (16 * 0 + v) = 0; rw [show 16 * 0 + v = v by omega]; exact a2 v hv, fun g gs hg => by cases hg⟩, trivial⟩, fun f0 fs hf => ⟨?_, f 118 _ (by omega) (by rw [v97]; rfl), trivial⟩⟩
    · have o2' : o ≤ 0 := o2
      omega
    · have e0 : (384, 0, -1, (fun _ => 0), 0) = f0 := (List.cons.inj hf).1
      rw [← e0, a3, rr 123 (by omega), h123]
      rfl
  · refine offG_of (fun h j e => ?_) (by rw [a6, lz])
    by_cases e97 : h = 97
    · subst e97
      have e' : ¬ (j = 95 ∨ (96 ≤ j ∧ j ≤ 106) ∨ j = 116 ∨ j = 118 ∨ j = 119) := fun x => e (Or.inl (Or.inl ⟨rfl, x⟩))
      have e2 : ¬ j = 126 := fun x => e (Or.inr ⟨rfl, x⟩)
      rw [u j (by omega), v97]
      rw [if_neg (by omega), if_neg (by omega), if_neg (by omega), if_neg (by omega), if_neg (by omega), if_neg (by omega), if_neg (by omega), if_neg (by omega), if_neg (by omega), if_neg (by omega), if_neg (by omega), if_neg (by omega), if_neg (by omega)]
    · have e' : ¬ (167 ≤ h ∧ h ≤ 176) := fun x => e (Or.inl (Or.inr (Or.inr (Or.inr (Or.inl x)))))
      rw [r5 h (by omega), rr h (by omega)]
end MJB75
end
section
/-! ===== every place of an OBJECT is a FIELD's ===== -/
section MJB76
variable {T : TT} {N c i m : Nat} {L : List CD}
theorem cntB_cons (b : Bool) (a : MD) (l : List MD) : cntB b (a :: l) = (if a.2.2.1 = b then 1 else 0) + cntB b l := by
  unfold cntB
  rw [List.filter_cons]
  by_cases h : a.2.2.1 = b
  · rw [if_pos (beq_iff_eq.mpr h), if_pos h, List.length_cons]
    omega
  · rw [if_neg (fun e => h (beq_iff_eq.mp e)), if_neg h]
    omega
theorem cnt_sur (b : Bool) : ∀ (l : List MD) (i : Nat), i < cntB b l → ∃ k md, l[k]? = some md ∧ md.2.2.1 = b ∧ cntB b (l.take k) = i
  | [], i, h => by
    have : i < 0 := h
    omega
  | a :: l, i, h => by
    rw [cntB_cons] at h
    by_cases g : a.2.2.1 = b
    · rw [if_pos g] at h
      cases i with
      | zero => exact ⟨0, a, rfl, g, rfl⟩
      | succ i =>
        obtain ⟨k, md, k1, k2, k3⟩ := cnt_sur b l i (by omega)
        refine ⟨k + 1, md, k1, k2, ?_⟩
        rw [List.take_succ_cons, cntB_cons, if_pos g, k3]
        omega
    · rw [if_neg g] at h
      obtain ⟨k, md, k1, k2, k3⟩ := cnt_sur b l i (by omega)
      refine ⟨k + 1, md, k1, k2, ?_⟩
      rw [List.take_succ_cons, cntB_cons, if_neg g, k3]
      omega
theorem own_sur (hfm : ∀ c, c < L.length → fmL L c + mcL L c ≤ nMem L) (hc : c < L.length) (hi : i < oflL L c) : ∃ m, m < nMem L ∧ mSM L m = false ∧ hmM L m = c ∧ nuM L m = i := by
  unfold oflL at hi
  cases hD : L[c]? with
  | none =>
    have := List.getElem?_eq_none_iff.mp hD
    omega
  | some D =>
    rw [hD] at hi
    dsimp only at hi
    obtain ⟨k, md, k1, k2, k3⟩ := cnt_sur false D.2 i hi
    obtain ⟨f1, f2⟩ := FL_at hD k1
    have kl := (List.getElem?_eq_some_iff.mp k1).1
    have h1 := hfm c hc
    have h2 : mcL L c = D.2.length := by unfold mcL; rw [hD]
    have h3 : fmL L c = nMem (L.take c) := rfl
    have ms : mSM L (nMem (L.take c) + k) = false := by unfold mSM; rw [f2]; exact k2
    refine ⟨nMem (L.take c) + k, by omega, ms, f1, ?_⟩
    unfold nuM
    rw [ms, f1, hD, h3]
    dsimp only
    rw [show nMem (L.take c) + k - nMem (L.take c) = k by omega]
    exact k3
theorem fld_sur (Ac : ACY T N L) (hfm : ∀ c, c < L.length → fmL L c + mcL L c ≤ nMem L) : ∀ (f c i : Nat), c < L.length → (∀ n x, upI (upT T L) n c = some x → n < f) → i < fldT T L c → ∃ m, m < nMem L ∧ mSM L m = false ∧ (vwT (nmL L) (abT T L) c (hmM L m)).isSome = true ∧ numM T L m = i
  | 0, c, i, hc, hf, hi => absurd (hf 0 c rfl) (Nat.lt_irrefl 0)
  | f + 1, c, i, hc, hf, hi => by
    have ow : ∀ k, k < oflL L c → k + (fldT T L c - oflL L c) = i → ∃ m, m < nMem L ∧ mSM L m = false ∧ (vwT (nmL L) (abT T L) c (hmM L m)).isSome = true ∧ numM T L m = i := by
      intro k hk e
      obtain ⟨m, m1, m2, m3, m4⟩ := own_sur hfm hc hk
      refine ⟨m, m1, m2, by rw [m3]; exact (vw_iff Ac hc).mpr ⟨0, rfl⟩, ?_⟩
      rw [(num_fld (T := T) m1 m2).2, m3, m4]
      exact e
    cases hu : upT T L c with
    | none =>
      have e := fld_top Ac hc hu
      exact ow i (by omega) (by omega)
    | some p =>
      have e := fld_up Ac hc hu
      by_cases g : i < fldT T L p
      · have st : ∀ n, upI (upT T L) (n + 1) c = upI (upT T L) n p := fun n => by
          show (match upT T L c with
            | none => none
            | some b => upI (upT T L) n b) = _
          rw [hu]
        obtain ⟨m, m1, m2, m3, m4⟩ := fld_sur Ac hfm f p i (up_lt Ac.1 hc hu) (fun n x hx => by
          have := hf (n + 1) x (by rw [st]; exact hx)
          omega) g
        obtain ⟨j, hj⟩ := (vw_iff Ac (up_lt Ac.1 hc hu)).mp m3
        exact ⟨m, m1, m2, (vw_iff Ac hc).mpr ⟨j + 1, by rw [st]; exact hj⟩, m4⟩
      · exact ow (i - fldT T L p) (by omega) (by omega)
theorem fld_ex (Ac : ACY T N L) (hfm : ∀ c, c < L.length → fmL L c + mcL L c ≤ nMem L) (hc : c < L.length) (hi : i < fldT T L c) : ∃ m, m < nMem L ∧ mSM L m = false ∧ (vwT (nmL L) (abT T L) c (hmM L m)).isSome = true ∧ numM T L m = i := fld_sur Ac hfm 16 c i hc (fun _ _ h => up_end Ac hc h) hi
end MJB76
end
section
/-! ===== WAYS, pure: what is come to, in order ===== -/
/-- the OBJECT that lies in a FIELD, or 0 -/
def hopN (T : TT) (L : List CD) (H : HEAP) (o i : Nat) : Nat := if obT T L (H.2 o).1 i = true then nN ((H.2 o).2.2 i) else 0
/-- an OBJECT, from which (0: none), its place, HOPS -/
abbrev WQ : Type := List (Nat × Nat × Nat × Nat)
def inW (Q : WQ) (o : Nat) : Prop := ∃ e, e ∈ Q ∧ e.1 = o
def inWb (Q : WQ) (o : Nat) : Bool := Q.any (fun e => decide (e.1 = o))
def wCome (Q : WQ) (o fo fi d : Nat) : WQ := if inWb Q o = true then Q else Q ++ [(o, fo, fi, d)]
def wHop (T : TT) (L : List CD) (H : HEAP) (sh fo fi d i : Nat) (Q : WQ) : WQ := if hopN T L H fo i = 0 ∨ hopN T L H fo i = sh then Q else wCome Q (hopN T L H fo i) fo fi (d + 1)
def wSlots (T : TT) (L : List CD) (H : HEAP) (sh fo fi d : Nat) : Nat → Nat → WQ → WQ
  | 0, _, Q => Q
  | r + 1, i, Q => wSlots T L H sh fo fi d r (i + 1) (wHop T L H sh fo fi d i Q)
def wGo (T : TT) (L : List CD) (H : HEAP) (sh : Nat) : Nat → Nat → WQ → WQ
  | 0, _, Q => Q
  | n + 1, k, Q => match Q[k]? with
    | none => Q
    | some e => wGo T L H sh n (k + 1) (wSlots T L H sh e.1 k e.2.2.2 (fldT T L (H.2 e.1).1) 0 Q)
def wRoot (H : HEAP) (sh o : Nat) (Q : WQ) : WQ := if (H.2 o).2.1 0 = 0 ∧ ¬ o = sh then wCome Q o 0 0 0 else Q
def wRoots (H : HEAP) (sh : Nat) : Nat → Nat → WQ → WQ
  | 0, _, Q => Q
  | r + 1, o, Q => wRoots H sh r (o + 1) (wRoot H sh o Q)
/-- from all ROOTS but one; from an OBJECT -/
def walkR (T : TT) (L : List CD) (H : HEAP) (sh : Nat) : WQ := wGo T L H sh (H.1 + 1) 0 (wRoots H sh H.1 1 [])
def walkO (T : TT) (L : List CD) (H : HEAP) (a : Nat) : WQ := wGo T L H 0 (H.1 + 1) 0 [(a, 0, 0, 0)]
def WOK (H : HEAP) (Q : WQ) : Prop := (Q.map (fun e => e.1)).Nodup ∧ (∀ e, e ∈ Q → 1 ≤ e.1 ∧ e.1 ≤ H.1) ∧ ∀ (k : Nat) (e : Nat × Nat × Nat × Nat), Q[k]? = some e → (e.2.1 = 0 ∧ e.2.2.2 = 0) ∨ (1 ≤ e.2.1 ∧ e.2.2.1 < k ∧ ∃ p : Nat × Nat × Nat × Nat, Q[e.2.2.1]? = some p ∧ p.1 = e.2.1 ∧ e.2.2.2 = p.2.2.2 + 1)
section MJB77
variable {T : TT} {N : Nat} {L : List CD} {H : HEAP} {Q : WQ} {o fo fi d sh i k n : Nat}
theorem inWb_iff : inWb Q o = true ↔ inW Q o := by
  unfold inWb inW
  rw [List.any_eq_true]
  constructor
  · intro ⟨e, h1, h2⟩
    exact ⟨e, h1, of_decide_eq_true h2⟩
  · intro ⟨e, h1, h2⟩
    exact ⟨e, h1, decide_eq_true h2⟩
theorem nd_le : ∀ (n : Nat) (l : List Nat), l.Nodup → (∀ x, x ∈ l → 1 ≤ x ∧ x ≤ n) → l.length ≤ n
  | 0, l, _, h => by
    cases l with
    | nil => exact Nat.le_refl _
    | cons a l =>
      have := h a List.mem_cons_self
      omega
  | n + 1, l, nd, h => by
    by_cases g : (n + 1) ∈ l
    · have e := List.length_erase_of_mem g
      have ih := nd_le n (l.erase (n + 1)) (nd.erase _) (fun x hx => by
        have m := (nd.mem_erase_iff).mp hx
        have := h x m.2
        have : ¬ x = n + 1 := m.1
        omega)
      omega
    · have ih := nd_le n l nd (fun x hx => by
        have := h x hx
        have : ¬ x = n + 1 := fun e => g (by rw [← e]; exact hx)
        omega)
      omega
theorem WOK.len (h : WOK H Q) : Q.length ≤ H.1 := by
  have := nd_le H.1 (Q.map (fun e => e.1)) h.1 (fun x hx => by
    obtain ⟨e, e1, e2⟩ := List.mem_map.mp hx
    rw [← e2]
    exact h.2.1 e e1)
  rw [List.length_map] at this
  exact this
theorem WOK.nil : WOK H [] := ⟨List.nodup_nil, fun e he => (by cases he), fun k e he => (by cases he)⟩
theorem come_in : inW (wCome Q o fo fi d) o := by
  unfold wCome
  by_cases g : inWb Q o = true
  · rw [if_pos g]; exact inWb_iff.mp g
  · rw [if_neg g]; exact ⟨_, List.mem_append_right _ (List.mem_singleton.mpr rfl), rfl⟩
theorem come_pre : ∃ R, wCome Q o fo fi d = Q ++ R := by
  unfold wCome
  by_cases g : inWb Q o = true
  · rw [if_pos g]; exact ⟨[], (List.append_nil Q).symm⟩
  · rw [if_neg g]; exact ⟨_, rfl⟩
theorem pre_at {R : WQ} {e : Nat × Nat × Nat × Nat} (h : Q[k]? = some e) : (Q ++ R)[k]? = some e := by
  rw [List.getElem?_append_left (List.getElem?_eq_some_iff.mp h).1]
  exact h
theorem WOK.come (h : WOK H Q) (o1 : 1 ≤ o) (o2 : o ≤ H.1) (hp : (fo = 0 ∧ d = 0) ∨ (1 ≤ fo ∧ ∃ p : Nat × Nat × Nat × Nat, Q[fi]? = some p ∧ p.1 = fo ∧ d = p.2.2.2 + 1)) : WOK H (wCome Q o fo fi d) := by
  unfold wCome
  by_cases g : inWb Q o = true
  · rw [if_pos g]; exact h
  · rw [if_neg g]
    obtain ⟨h1, h2, h3⟩ := h
    refine ⟨?_, fun e he => ?_, fun k e he => ?_⟩
    · rw [List.map_append]
      refine List.nodup_append.mpr ⟨h1, (by simp), fun a ha b hb => ?_⟩
      have eb : b = o := by simpa using hb
      intro e
      obtain ⟨x, x1, x2⟩ := List.mem_map.mp ha
      exact g (inWb_iff.mpr ⟨x, x1, by rw [x2, e, eb]⟩)
    · rcases List.mem_append.mp he with he | he
      · exact h2 e he
      · have e' : e = (o, fo, fi, d) := by simpa using he
        rw [e']
        exact ⟨o1, o2⟩
    · by_cases kl : k < Q.length
      · rw [List.getElem?_append_left kl] at he
        rcases h3 k e he with a | ⟨a1, a2, p, a3, a4, a5⟩
        · exact Or.inl a
        · exact Or.inr ⟨a1, a2, p, pre_at a3, a4, a5⟩
      · rw [List.getElem?_append_right (by omega)] at he
        have kl2 := (List.getElem?_eq_some_iff.mp he).1
        rw [List.length_singleton] at kl2
        rw [show k - Q.length = 0 by omega] at he
        have e' : (o, fo, fi, d) = e := by simpa using he
        rw [← e']
        rcases hp with a | ⟨a1, p, a3, a4, a5⟩
        · exact Or.inl a
        · have pl := (List.getElem?_eq_some_iff.mp a3).1
          exact Or.inr ⟨a1, by show fi < k; omega, p, pre_at a3, a4, a5⟩
/-- a HOP goes to an OBJECT -/
theorem hop_ok (hH : HOK T L H) (hb : H.1 ≤ 4000) (o1 : 1 ≤ o) (o2 : o ≤ H.1) : hopN T L H o i ≤ H.1 ∧ (obT T L (H.2 o).1 i = true → (H.2 o).2.2 i = nI (hopN T L H o i)) := by
  unfold hopN
  by_cases g : obT T L (H.2 o).1 i = true
  · rw [if_pos g]
    have any : ∀ (g : Nat → Bool) n, anyB g n = true → ∃ x, x < n ∧ g x = true := by
      intro g n
      induction n with
      | zero => exact fun e => (by cases e)
      | succ n ih =>
        intro h
        have h' : (anyB g n || g n) = true := h
        rw [Bool.or_eq_true] at h'
        rcases h' with h' | h'
        · obtain ⟨x, x1, x2⟩ := ih h'
          exact ⟨x, by omega, x2⟩
        · exact ⟨n, by omega, h'⟩
    obtain ⟨m, m1, m2⟩ := any _ _ g
    have m2' : (!mSM L m && decide (2 ≤ tyM T L m) && (vwT (nmL L) (abT T L) (H.2 o).1 (hmM L m)).isSome && decide (numM T L m = i)) = true := m2
    rw [Bool.and_eq_true, Bool.and_eq_true, Bool.and_eq_true] at m2'
    obtain ⟨⟨⟨a1, a2⟩, a3⟩, a4⟩ := m2'
    have ms : mSM L m = false := by cases h : mSM L m with
      | true => rw [h] at a1; cases a1
      | false => rfl
    have v := (hH o o1 o2).2.2 m m1 ms a3
    rw [of_decide_eq_true a4] at v
    have ty := of_decide_eq_true a2
    obtain ⟨kk, ek⟩ : ∃ kk, tyM T L m = kk + 2 := ⟨tyM T L m - 2, by omega⟩
    rw [ek] at v
    rcases v with v | ⟨x, x1, x2, x3, _⟩
    · rw [v]
      exact ⟨Nat.zero_le _, fun _ => rfl⟩
    · rw [x3]
      rw [nN_nI (by omega)]
      exact ⟨x2, fun _ => rfl⟩
  · rw [if_neg g]
    exact ⟨Nat.zero_le _, fun e => absurd e g⟩
end MJB77
end
section
/-! ===== the nearest above: what the class works out ===== -/
def zW (Q : WQ) (x : Nat) : Prop := x = 0 ∨ inW Q x
def upN (N : Nat → Nat) : Nat → Nat → Nat
  | 0, v => v
  | k + 1, v => upN N k (N v)
def inC (N : Nat → Nat) (a v : Nat) : Prop := ∃ k, upN N k v = a
def abB (N rk : Nat → Nat) : Nat → Nat → Nat → Nat
  | 0, x, _ => x
  | r + 1, x, y => if x = y then x else if rk x ≤ rk y then abB N rk r x (N y) else abB N rk r (N x) y
def narN (N rk : Nat → Nat) (r o t : Nat) : Nat → Nat := fun v => if v = t then abB N rk r (N t) o else N v
def rkL : List Nat → Nat → Nat
  | [], _ => 0
  | y :: l, x => if y = x then 1 else rkL l x + 1
def rkQ (Q : WQ) (x : Nat) : Nat := if x = 0 then 0 else rkL (Q.map (fun e => e.1)) x
def prQ : WQ → Nat → Nat
  | [], _ => 0
  | e :: l, x => if e.1 = x then e.2.1 else prQ l x
def narS (T : TT) (L : List CD) (H : HEAP) (rk : Nat → Nat) (r o : Nat) : Nat → Nat → (Nat → Nat) × Bool → (Nat → Nat) × Bool
  | 0, _, z => z
  | n + 1, i, z => narS T L H rk r o n (i + 1) (if hopN T L H o i = 0 then z else (narN z.1 rk r o (hopN T L H o i), z.2 || !decide (abB z.1 rk r (z.1 (hopN T L H o i)) o = z.1 (hopN T L H o i))))
def narQ (T : TT) (L : List CD) (H : HEAP) (rk : Nat → Nat) (r : Nat) : WQ → (Nat → Nat) × Bool → (Nat → Nat) × Bool
  | [], z => z
  | e :: l, z => narQ T L H rk r l ((narS T L H rk r e.1 (fldT T L (H.2 e.1).1) 0 (z.1, false)).1, (narS T L H rk r e.1 (fldT T L (H.2 e.1).1) 0 (z.1, false)).2 || z.2)
def narR (T : TT) (L : List CD) (H : HEAP) (rk : Nat → Nat) (r : Nat) (Q : WQ) : Nat → (Nat → Nat) → Nat → Nat
  | 0, N => N
  | k + 1, N => if (narQ T L H rk r Q (N, false)).2 = true then narR T L H rk r Q k (narQ T L H rk r Q (N, false)).1 else (narQ T L H rk r Q (N, false)).1
/-- the class's nearest above -/
def nrC (T : TT) (L : List CD) (H : HEAP) : Nat → Nat := narR T L H (rkQ (walkR T L H 0)) (2 * H.1 + 1) (walkR T L H 0) 1000000 (prQ (walkR T L H 0))
end
section
/-! ===== what holds between two calls ===== -/
/-- a LEAK; how many of the first n -/
def lkO (T : TT) (L : List CD) (H : HEAP) (o : Nat) : Bool := !decide ((H.2 o).2.1 0 = 0) && inWb (walkR T L H ((H.2 o).2.1 0)) o
def lkN (T : TT) (L : List CD) (H : HEAP) : Nat → Nat
  | 0 => 0
  | o + 1 => lkN T L H o + (if lkO T L H (o + 1) = true then 1 else 0)
/-- what the reference, what the class has found of the OBJECTS as they are -/
def KNm (T : TT) (L : List CD) (H : HEAP) (s : mjSt3) : Prop := s.1 97 126 = 0 ∨ (s.1 97 126 = 1 ∧ (∀ o, 1 ≤ o → o ≤ H.1 → s.1 181 o = b2 (lkO T L H o)) ∧ s.1 97 127 = nI (lkN T L H H.1))
def R94 (T : TT) (L : List CD) (H : HEAP) (s : mjSt3) : Prop := ∀ o, 1 ≤ o → o ≤ H.1 → s.1 94 o = if inWb (walkR T L H 0) o = true then nI (nrC T L H o) else -1
def KNc (T : TT) (L : List CD) (H : HEAP) (s : mjSt3) : Prop := s.1 91 5 = 0 ∨ (s.1 91 5 = 1 ∧ s.1 91 9 = nI (lkN T L H H.1) ∧ (∀ o, o < H.1 → lkO T L H (o + 1) = true → s.1 96 (lkN T L H o) = nI (o + 1)) ∧ R94 T L H s)
def KNz (s : mjSt3) : Prop := ∀ (T : TT) (L : List CD) (H : HEAP), H.1 = 0 → KNc T L H s
def IBs (s : mjSt3) : Prop := I_tape s ∧ (∀ i, i < 3000 → byR (s.1 1 i)) ∧ ((∀ i, i < 16 → s.2.1 59 i = lN (rN gC (wdL.getD i []))) ∧ ∀ i, i < 16 → s.2.1 99 (i + 1) = lN (rN gM (wdL.getD i []))) ∧ (isP (s.2.2 0 6) ∧ isP (s.2.2 0 7) ∧ ¬ s.2.2 0 6 = s.2.2 0 7) ∧ (∃ h, h ≤ 1 ∧ s.1 97 9 = nI h) ∧ isP (s.2.2 91 1)
/-- no RUN -/
def IZ (s : mjSt3) : Prop := (s.1 97 96 = 0 ∧ s.1 82 8 = 0) ∧ (s.1 82 9 = 0 ∧ s.1 82 10 = 0 ∧ s.1 82 11 = -1 ∧ s.1 82 12 = 0 ∧ s.1 82 13 = 0) ∧ (s.1 79 2 = 0 ∧ s.1 79 3 = 0) ∧ (s.1 83 0 = 0 ∧ s.1 83 1 = 0) ∧ KNz s
/-- a program -/
def IPG (T : TT) (N b q : Nat) (t : PT) (rs : List RcM) (kb : Nat) (z : PB) (tr : Bool) (cs : Nat → Nat) (s : mjSt3) : Prop := (b ≤ 1 ∧ s.1 97 9 = nI b ∧ s.1 97 10 = 1 ∧ s.2.2 0 6 = q ∧ s.1 0 8 = 1) ∧ (PRX T N (800 * b) t rs kb z tr ∧ SYX t rs z ∧ (∀ c, fldT T t.1 c ≤ 384) ∧ HBd T N b t rs kb z tr) ∧ JKP T N b t rs z tr s ∧ PG T t.1 q s ∧ CPC T t rs z tr (800 * b) q cs s ∧ (∀ m, m ≤ 384 → isMT t.1 m = true → s.1 (q + 22) m = nI (vnT t m)) ∧ TRc T N (800 * b) t rs kb z ∧ N ≤ 3000
/-- a RUN -/
def IRN (i : Nat) (T : TT) (b q : Nat) (t : PT) (rs : List RcM) (z : PB) (tr : Bool) (cs : Nat → Nat) (wm cm : Nat) (A : AMS) (s : mjSt3) : Prop := (wm ≤ 4000 ∧ cm ≤ 40) ∧ (1 ≤ A.2.2.2.2.2.2.2.2.1 ∧ A.2.2.2.2.2.2.2.2.1 ≤ 3 ∧ A.2.2.2.2.1 ≤ 41 ∧ A.2.2.2.2.2.2.2.1 ≤ 2000 * i) ∧ (AOK T t rs z tr (800 * b) wm cm A ∧ YI rs z A) ∧ CRn T t.1 (pfC T t rs z tr (800 * b) cs) wm cm (pcO (pfC T t rs z tr (800 * b) cs) A) A s ∧ MRn T t b wm cm A s ∧ (s.2.2 82 2 = q ∧ s.2.2 82 3 = q + 24 ∧ s.2.2 91 1 = q) ∧ KNc T t.1 A.1 s ∧ KNm T t.1 A.1 s
def Inv (i : Nat) (s : mjSt3) : Prop := IBs s ∧ ((s.1 0 8 = 0 ∧ s.1 97 10 = 0 ∧ IZ s) ∨ ∃ T N b q t rs kb z tr cs, IPG T N b q t rs kb z tr cs s ∧ (IZ s ∨ ∃ wm cm A, IRN i T b q t rs z tr cs wm cm A s))
section MJB78
variable {T : TT} {N b kb q wm cm pc i i' n : Nat} {L : List CD} {pf : Nat → Nat → Nat} {t : PT} {rs : List RcM} {z : PB} {tr : Bool} {cs : Nat → Nat} {H : HEAP} {A : AMS} {s s' : mjSt3}
/-- the reference's RUN, when handles from 97 on are left -/
theorem MRn.lo (M : MRn T t b wm cm A s) (e : ∀ h, 97 ≤ h → s'.1 h = s.1 h) : MRn T t b wm cm A s' := by
  obtain ⟨⟨⟨a1, a2, a3, a4⟩, ⟨a5, a6, a7⟩, ⟨a8, a9, a10⟩, ⟨a11, a12⟩, a13⟩, hH, hF, hT⟩ := M
  have e97 := e 97 (Nat.le_refl _)
  refine ⟨⟨⟨by rw [e97]; exact a1, by rw [e97]; exact a2, by rw [e97]; exact a3, by rw [e97]; exact a4⟩, ⟨by rw [e97]; exact a5, by rw [e97]; exact a6, by rw [e97]; exact a7⟩, ⟨by rw [e97]; exact a8, by rw [e97]; exact a9, by rw [e97]; exact a10⟩, ⟨by rw [e97]; exact a11, by rw [e97]; exact a12⟩, fun i h1 h2 => by rw [e 167 (by omega)]; exact a13 i h1 h2⟩, hH.keep (fun x hx => e x (by omega)), FRr.keep (fun x hx => e x (by omega)) _ hF, fun g gs hg => ?_⟩
  obtain ⟨c1, c2, c3⟩ := hT g gs hg
  exact ⟨by rw [e97]; exact c1, by rw [e97]; exact c2, STr.low _ (fun j _ => by rw [e 176 (by omega)]) c3⟩
/-- the walker's fields and rows are nothing to a RUN -/
theorem MRn.wk (M : MRn T t b wm cm A s) (e : ∀ j, ¬ (j = 124 ∨ j = 126 ∨ j = 127) → s'.1 97 j = s.1 97 j) (er : ∀ h, 167 ≤ h ∧ h ≤ 176 → s'.1 h = s.1 h) : MRn T t b wm cm A s' := by
  obtain ⟨⟨⟨a1, a2, a3, a4⟩, ⟨a5, a6, a7⟩, ⟨a8, a9, a10⟩, ⟨a11, a12⟩, a13⟩, hH, hF, hT⟩ := M
  refine ⟨⟨⟨by rw [e 96 (by omega)]; exact a1, by rw [e 97 (by omega)]; exact a2, by rw [e 98 (by omega)]; exact a3, by rw [e 99 (by omega)]; exact a4⟩, ⟨by rw [e 100 (by omega)]; exact a5, by rw [e 105 (by omega)]; exact a6, by rw [e 106 (by omega)]; exact a7⟩, ⟨by rw [e 102 (by omega)]; exact a8, by rw [e 103 (by omega)]; exact a9, by rw [e 116 (by omega)]; exact a10⟩, ⟨by rw [e 101 (by omega)]; exact a11, by rw [e 104 (by omega)]; exact a12⟩, fun i h1 h2 => by rw [er 167 (by omega)]; exact a13 i h1 h2⟩, hH.keep (fun x hx => er x (by omega)), FRr.keep (fun x hx => er x (by omega)) _ hF, fun g gs hg => ?_⟩
  obtain ⟨c1, c2, c3⟩ := hT g gs hg
  exact ⟨by rw [e 119 (by omega)]; exact c1, by rw [e 118 (by omega)]; exact c2, STr.low _ (fun j _ => by rw [er 176 (by omega)]) c3⟩
/-- the class's RUN, when its handles are left -/
theorem CRn.hi (M : CRn T L pf wm cm pc A s) (e : ∀ h, 79 ≤ h ∧ h ≤ 90 → s'.1 h = s.1 h) : CRn T L pf wm cm pc A s' := by
  obtain ⟨⟨⟨a1, a2, a3, a4⟩, ⟨a5, a6, a7⟩, ⟨a8, a9, a10⟩, ⟨a11, a12⟩, a13⟩, hH, hF, hT⟩ := M
  have e82 := e 82 (by omega)
  have e83 := e 83 (by omega)
  have e79 := e 79 (by omega)
  refine ⟨⟨⟨by rw [e82]; exact a1, by rw [e82]; exact a2, by rw [e82]; exact a3, by rw [e82]; exact a4⟩, ⟨by rw [e82]; exact a5, by rw [e83]; exact a6, by rw [e82]; exact a7⟩, ⟨by rw [e79]; exact a8, by rw [e79]; exact a9, by rw [e83]; exact a10⟩, ⟨by rw [e79]; exact a11, by rw [e82]; exact a12⟩, fun i h1 h2 => by rw [e 90 (by omega)]; exact a13 i h1 h2⟩, hH.keep (fun x hx => e x (by omega)), FRc.keep (fun x hx => e x (by omega)) _ hF, fun g gs hg => ?_⟩
  obtain ⟨c1, c2, c3⟩ := hT g gs hg
  exact ⟨by rw [e82]; exact c1, by rw [e82]; exact c2, STc.low _ (fun j _ => by rw [e 89 (by omega)]) c3⟩
theorem KNc.keep (K : KNc T L H s) (e : ∀ h, h = 91 ∨ h = 94 ∨ h = 96 → s'.1 h = s.1 h) : KNc T L H s' := by
  unfold KNc R94
  rw [e 91 (by omega), e 94 (by omega), e 96 (by omega)]
  exact K
theorem KNz.keep (K : KNz s) (e : ∀ h, h = 91 ∨ h = 94 ∨ h = 96 → s'.1 h = s.1 h) : KNz s' := fun T L H h => (K T L H h).keep e
theorem KNm.keep (K : KNm T L H s) (e : ∀ h, h = 97 ∨ h = 181 → s'.1 h = s.1 h) : KNm T L H s' := by
  unfold KNm
  rw [e 97 (by omega), e 181 (by omega)]
  exact K
theorem IPG.keep (G : IPG T N b q t rs kb z tr cs s) (e97 : s'.1 97 9 = s.1 97 9 ∧ s'.1 97 10 = s.1 97 10) (e0 : s'.2.2 0 6 = s.2.2 0 6 ∧ s'.1 0 8 = s.1 0 8) (ej : JKP T N b t rs z tr s → JKP T N b t rs z tr s') (ei : ∀ h, q ≤ h ∧ h ≤ q + 27 → s'.1 h = s.1 h) (el : ∀ h, q ≤ h ∧ h ≤ q + 27 → s'.2.1 h = s.2.1 h) : IPG T N b q t rs kb z tr cs s' := by
  obtain ⟨⟨g1, g2, g3, g4, g5⟩, g6, g7, g8, g9, g10, g11⟩ := G
  exact ⟨⟨g1, by rw [e97.1]; exact g2, by rw [e97.2]; exact g3, by rw [e0.1]; exact g4, by rw [e0.2]; exact g5⟩, g6, ej g7, g8.cg ei el, g9.cg (fun h hh => ei h (by omega)), fun m hm im => by rw [ei (q + 22) (by omega)]; exact g10 m hm im, g11⟩
theorem IRN.mono (R : IRN i T b q t rs z tr cs wm cm A s) (h : i ≤ i') : IRN i' T b q t rs z tr cs wm cm A s := by
  obtain ⟨r1, ⟨r2, r3, r4, r5⟩, r6⟩ := R
  exact ⟨r1, ⟨r2, r3, r4, by omega⟩, r6⟩
theorem Inv.mono (h : Inv i s) (hi : i ≤ i') : Inv i' s := by
  obtain ⟨h1, h2⟩ := h
  refine ⟨h1, ?_⟩
  rcases h2 with h2 | ⟨T, N, b, q, t, rs, kb, z, tr, cs, h3, h4⟩
  · exact Or.inl h2
  · refine Or.inr ⟨T, N, b, q, t, rs, kb, z, tr, cs, h3, ?_⟩
    rcases h4 with h4 | ⟨wm, cm, A, h4⟩
    · exact Or.inl h4
    · exact Or.inr ⟨wm, cm, A, h4.mono hi⟩
theorem IPG.isq (G : IPG T N b q t rs kb z tr cs s) : q = 2 ∨ q = 30 := G.2.2.2.1.1.1
end MJB78
end
section
/-! ===== run, on both ===== -/
section MJB79
variable {T : TT} {N b kb q wm cm i k0 k kk : Nat} {L : List CD} {t : PT} {rs : List RcM} {z : PB} {tr : Bool} {cs : Nat → Nat} {H : HEAP} {r : Row} {j : JS} {f : FRM} {fs : List FRM} {st : List Int32} {sc : SCL} {A : AMS} {s s' : mjSt3} {a : Int32}
theorem aStep_ph {E : EV} {i0 : Nat} (h : 1 ≤ sc.2.2.2.2.1) : 1 ≤ (aStep T L E j i0 wm cm r (H, f :: fs, kk, st, sc)).2.2.2.2.2.2.2.2.1 :=
  aStep_cs (Pd := fun A => 1 ≤ A.2.2.2.2.2.2.2.2.1) (fun _ _ _ _ => h) (fun _ _ => h) (fun _ _ => (show 1 ≤ 3 by decide)) (fun v st' => by
    cases fs with
    | nil => exact (show 1 ≤ 2 by decide)
    | cons g gs => exact h) (fun _ _ _ _ _ => h)
theorem aOne_ph (h : 1 ≤ A.2.2.2.2.2.2.2.2.1) : 1 ≤ (aOne T t rs z tr k0 wm cm A).2.2.2.2.2.2.2.2.1 := by
  obtain ⟨H, fs, k, st, sc⟩ := A
  cases fs with
  | nil => exact h
  | cons f fs => exact aStep_ph h
theorem aRun_ph : ∀ (n left : Nat) (A B : AMS), 1 ≤ A.2.2.2.2.2.2.2.2.1 → aRun T t rs z tr k0 wm cm n left A = some B → 1 ≤ B.2.2.2.2.2.2.2.2.1
  | 0, left, A, B, h, g => by cases g
  | n + 1, left, A, B, h, g => by
    unfold aRun at g
    by_cases ph : A.2.2.2.2.2.2.2.2.1 = 1
    · rw [if_neg (fun e => e ph)] at g
      by_cases c : costs (aOrd rs z A) = true
      · rw [if_pos c] at g
        by_cases l0 : left = 0
        · rw [if_pos l0] at g
          rw [← Option.some.inj g]
          exact h
        · rw [if_neg l0] at g
          exact aRun_ph n (left - 1) _ B (aOne_ph h) g
      · rw [if_neg c] at g
        exact aRun_ph n left _ B (aOne_ph h) g
    · rw [if_pos ph] at g
      rw [← Option.some.inj g]
      exact h
theorem IBs.keep (h : IBs s) (e0 : s'.1 0 1 = s.1 0 1) (e1 : s'.1 1 = s.1 1) (e97 : s'.1 97 1 = s.1 97 1 ∧ s'.1 97 9 = s.1 97 9) (e98 : s'.1 98 = s.1 98) (l : s'.2.1 59 = s.2.1 59 ∧ s'.2.1 99 = s.2.1 99) (r : s'.2.2 0 = s.2.2 0) (w : isP (s'.2.2 91 1)) : IBs s' := by
  obtain ⟨⟨tp, t1, t2, t3, t4⟩, h2, ⟨h3, h4⟩, h5, h6, h7⟩ := h
  refine ⟨⟨tp, t1, by rw [e0]; exact t2, by rw [e97.1]; exact t3, by rw [e1, e98]; exact t4⟩, by rw [e1]; exact h2, ⟨by rw [l.1]; exact h3, by rw [l.2]; exact h4⟩, by rw [r]; exact h5, by rw [e97.2]; exact h6, w⟩
/-- the state of a RUN is the same on both -/
theorem Inv.ph (h : Inv i s) : s.1 97 96 = s.1 82 8 := by
  rcases h.2 with ⟨_, _, z⟩ | ⟨T, N, b, q, t, rs, kb, z, tr, cs, G, z1 | ⟨wm, cm, A, R⟩⟩
  · rw [z.1.1, z.1.2]
  · rw [z1.1.1, z1.1.2]
  · have e1 := R.2.2.2.1.1.1.1
    have e2 := R.2.2.2.2.1.1.1.1
    rw [e1, e2]
theorem run_cn (h : a < 1 ∨ 2000 < a ∨ ¬ s.1 82 8 = 1) : mjF 1999 211 [.ref 0, .int a] (mjW0 s) = some (some (.int (-1)), mjW0 s) := by
  rw [show (1999 : Nat) = 1998 + 1 from rfl, e_211]
  unfold f_211 b_211_0 b_211_23
  by_cases h1 : a < 1
  · rw [if_pos h1]
  rw [if_neg h1]
  by_cases h2 : 2000 < a
  · rw [if_pos h2]
  rw [if_neg h2]
  have h3 : ¬ s.1 82 8 = 1 := (h.resolve_left h1).resolve_left h2
  rw [xg_0_12, xg_82_8, if_neg h3]
theorem run_rn (h : a < 1 ∨ 2000 < a ∨ ¬ s.1 97 96 = 1) : mjF 1999 229 [.ref 97, .int a] (mjW0 s) = some (some (.int (-1)), mjW0 s) := by
  rw [show (1999 : Nat) = 1998 + 1 from rfl, e_229]
  unfold f_229 b_229_0 b_229_20
  rw [xg_97_96]
  by_cases h0 : s.1 97 96 = 1
  · rw [if_pos h0]
    by_cases h1 : a < 1
    · rw [if_pos h1]
    · have h2 : 2000 < a := (h.resolve_left h1).resolve_right (fun x => x h0)
      rw [if_neg h1, if_neg (show ¬ a ≤ 2000 from Int32.not_le.mpr h2)]
  · rw [if_neg h0]
theorem pair_run (hi : i ≤ 511) (h : Inv i s) (a : Int32) : PairOK (Inv (i + 1)) 211 229 [.int a] s := by
  by_cases hn : a < 1 ∨ 2000 < a ∨ ¬ s.1 82 8 = 1
  · exact ⟨-1, s, s, run_cn hn, run_rn (by rw [h.ph]; exact hn), h.mono (by omega)⟩
  have a1 : ¬ a < 1 := fun x => hn (Or.inl x)
  have a2 : ¬ 2000 < a := fun x => hn (Or.inr (Or.inl x))
  have a3 : s.1 82 8 = 1 := Classical.byContradiction (fun x => hn (Or.inr (Or.inr x)))
  obtain ⟨hB, hP⟩ := h
  rcases hP with ⟨_, _, zz⟩ | ⟨T, N, b, q, t, rs, kb, z, tr, cs, G, hR⟩
  · rw [zz.1.2] at a3; exact absurd a3 (by decide)
  rcases hR with zz | ⟨wm, cm, A, R⟩
  · rw [zz.1.2] at a3; exact absurd a3 (by decide)
  obtain ⟨n, n1, en⟩ := nI_of2 (x := a) (M := 2000) (n := 2000) rfl (fun x => a1 (Int32.lt_trans x (by decide))) (Int32.not_lt.mp a2)
  have hq := G.isq
  obtain ⟨⟨g1, g2, g3, g4, g5⟩, ⟨P, Y, h384, hHB⟩, hJ, hPG, hC, hV⟩ := id G
  obtain ⟨⟨wm4, cm4⟩, ⟨p1, p3, m41, sle⟩, ⟨hA, hY⟩, M, Mr, ⟨r1, r2, r3⟩, K1, K2⟩ := R
  have ph : A.2.2.2.2.2.2.2.2.1 = 1 := (nI_ph p3).mp (M.1.1.1.symm.trans a3)
  have I : CIn T (800 * b) q t rs z tr cs wm cm A s := ⟨M, ⟨hPG, r1, r2⟩, hC, hA, m41⟩
  have hl : A.2.1.length ≤ 40 := Nat.le_trans hA.2.2.1 cm4
  have cw := cw_le (rs := rs) (z := z) A
  obtain ⟨B, hB'⟩ := aRun_some (cm := cm) P wm4 20300000 n A hA (by omega)
  obtain ⟨kA, kY, kS⟩ := aRun_keep P Y wm4 _ _ _ _ hA hY hB'
  have kp := aRun_ph _ _ _ _ p1 hB'
  obtain ⟨s1, c1, c2, c3, c4⟩ := x_75 (d := 1990) P Y wm4 cm4 h384 n1 p3 hY (by omega) I hB'
  obtain ⟨s2, e2⟩ : ∃ y, y = uI s1 91 (upd (s1.1 91) 5 0) := ⟨_, rfl⟩
  obtain ⟨s3, e3⟩ : ∃ y, y = uI s2 97 (upd (s2.1 97) 126 0) := ⟨_, rfl⟩
  have f1 : ∀ h, ¬ (79 ≤ h ∧ h ≤ 90) → s1.1 h = s.1 h := fun h e => funext fun j => c2.1 h j (fun x => e x)
  have f2 : ∀ h, ¬ (79 ≤ h ∧ h ≤ 91) → s2.1 h = s.1 h := fun h e => by rw [e2, uI_ne _ _ _ _ (by omega), f1 h (by omega)]
  have l2 : s2.2 = s.2 := by
    rw [e2]
    exact Prod.ext (funext fun h => funext fun j => c2.2.1 h j (fun x => x)) c2.2.2
  have Mr2 : MRn T t b wm cm A s2 := Mr.lo (fun h hh => f2 h (by omega))
  have f3 : ∀ h, ¬ h = 97 → s3.1 h = s2.1 h := fun h e => by rw [e3, uI_ne _ _ _ _ e]
  have v3 : ∀ j, s3.1 97 j = if j = 126 then 0 else s2.1 97 j := fun j => by rw [e3, uI_same, upd_g]
  have l3 : s3.2 = s.2 := by rw [e3]; exact l2
  have Mr3 : MRn T t b wm cm A s3 := Mr2.wk (fun j hj => by rw [v3, if_neg (by omega)]) (fun h hh => f3 h (by omega))
  have J2 : JKP T N b t rs z tr s2 := hJ.lo (fun h hh => f2 h (by omega)) (fun h _ => by rw [l2])
  have J3 : JKP T N b t rs z tr s3 := J2.keep (fun h j x => by rw [f3 h (by have := inB_97 x; omega)]) (fun h j _ => by rw [l3, l2])
  have RI : RIn T N b t rs z tr wm cm A s3 := ⟨Mr3, J3.rpg hHB, by rw [v3, if_neg (by decide), f2 97 (by omega)]; exact g2, hA, m41⟩
  obtain ⟨s4, d1, d2, d3⟩ := lq_229b (d := 1992) P Y g1 wm4 cm4 h384 20300000 mjN n A B s3 (by unfold mjN; omega) n1 hY (by omega) RI hB'
  rw [if_pos ph] at d3
  have f4 : ∀ h, h < 97 → s4.1 h = s2.1 h := fun h e => (funext fun j => d2.1 h j (fun x => by unfold chRn at x; omega)).trans (f3 h (by omega))
  have l4 : s4.2 = s.2 := (Prod.ext (funext fun h => funext fun j => d2.2.1 h j (fun x => x)) d2.2.2).trans l3
  have u4 : ∀ j, j < 95 → s4.1 97 j = s.1 97 j := fun j e => by rw [d2.1 97 j (fun x => by unfold chRn at x; omega), v3, if_neg (by omega), f2 97 (by omega)]
  have p82 : s2.1 82 8 = nI B.2.2.2.2.2.2.2.2.1 := by rw [e2, uI_ne _ _ _ _ (by decide)]; exact c1.1.1.1.1
  refine ⟨nI B.2.2.2.2.2.2.2.2.1, s2, s4, ?_, ?_, ?_, Or.inr ⟨T, N, b, q, t, rs, kb, z, tr, cs, ?_, Or.inr ⟨wm, cm, B, ⟨wm4, cm4⟩, ⟨kp, c4, c1.2.2.2.2, by omega⟩, ⟨kA, kY⟩, ?_, d1.1, ?_, ?_, ?_⟩⟩⟩
  · rw [show (1999 : Nat) = 1998 + 1 from rfl, e_211]
    unfold f_211 b_211_0
    rw [if_neg a1, if_neg a2, xg_0_12, xg_82_8, a3, if_pos rfl, xg_0_12, xV_82, en, c3, bN_s, xg_0_13, xV_91, show (1998 : Nat) = 1997 + 1 from rfl, e_183]
    unfold f_183 b_183_0
    rw [xp_91_5 (by decide), ← e2, bN_s, xg_0_12, xg_82_8, p82]
  · have h96 : s2.1 97 96 = 1 := by rw [f2 97 (by omega), show s.1 97 96 = nI A.2.2.2.2.2.2.2.2.1 from Mr.1.1.1, ph]; rfl
    rw [show (1999 : Nat) = 1998 + 1 from rfl, e_229]
    unfold f_229 b_229_0
    rw [xg_97_96, h96, if_pos rfl, if_neg a1, if_pos (Int32.not_lt.mp a2), xp_97_126 (by decide), ← e3, en]
    exact d3
  · exact hB.keep (by rw [f4 0 (by omega), f2 0 (by omega)]) (by rw [f4 1 (by omega), f2 1 (by omega)]) ⟨u4 1 (by omega), u4 9 (by omega)⟩ (by rw [show s4.1 98 = s3.1 98 from funext fun j => d2.1 98 j (fun x => by unfold chRn at x; omega), f3 98 (by decide), f2 98 (by omega)]) ⟨by rw [l4], by rw [l4]⟩ (by rw [l4]) (by rw [l4]; exact hB.2.2.2.2.2)
  · exact G.keep ⟨u4 9 (by omega), u4 10 (by omega)⟩ ⟨by rw [l4], by rw [f4 0 (by omega), f2 0 (by omega)]⟩ (fun _ => J3.rn d2) (fun h hh => by rw [f4 h (by omega), f2 h (by omega)]) (fun h _ => by rw [l4])
  · exact c1.1.hi (fun h hh => by rw [f4 h (by omega), e2, uI_ne _ _ _ _ (by omega)])
  · rw [l4]; exact ⟨r1, r2, r3⟩
  · exact Or.inl (by rw [f4 91 (by omega), e2, uI_same, upd_g, if_pos rfl])
  · exact Or.inl (by rw [d2.1 97 126 (fun x => by unfold chRn at x; omega), v3, if_pos rfl])
end MJB79
end
section
/-! ===== start, on both ===== -/
section MJB80
variable {i : Nat} {s s' : mjSt3} {a c : Int32}
theorem start_cn (h : s.1 0 8 = 0 ∨ a < 8 ∨ 4000 < a ∨ c < 1 ∨ ¬ c ≤ 40) : mjF 1999 210 [.ref 0, .int a, .int c] (mjW0 s) = some (some (.int 0), mjW0 s) := by
  rw [show (1999 : Nat) = 1998 + 1 from rfl, e_210]
  unfold f_210 b_210_0 b_210_31
  rw [xg_0_8]
  by_cases h0 : s.1 0 8 = 0
  · rw [if_pos h0]
  rw [if_neg h0]
  by_cases h1 : a < 8
  · rw [if_pos h1]
  rw [if_neg h1]
  by_cases h2 : 4000 < a
  · rw [if_pos h2]
  rw [if_neg h2]
  by_cases h3 : c < 1
  · rw [if_pos h3]
  rw [if_neg h3, if_neg ((((h.resolve_left h0).resolve_left h1).resolve_left h2).resolve_left h3)]
theorem start_rn (h : s.1 97 10 = 0 ∨ a < 8 ∨ 4000 < a ∨ c < 1 ∨ ¬ c ≤ 40) : mjF 1999 340 [.ref 97, .int a, .int c] (mjW0 s) = some (some (.int 0), mjW0 s) := by
  rw [show (1999 : Nat) = 1998 + 1 from rfl, e_340]
  unfold f_340 b_340_0 b_340_31
  rw [xg_97_10]
  by_cases h0 : s.1 97 10 = 0
  · rw [if_pos h0]
  rw [if_neg h0]
  by_cases h1 : a < 8
  · rw [if_pos h1]
  rw [if_neg h1]
  by_cases h2 : 4000 < a
  · rw [if_pos h2]
  rw [if_neg h2]
  by_cases h3 : c < 1
  · rw [if_pos h3]
  rw [if_neg h3, if_neg ((((h.resolve_left h0).resolve_left h1).resolve_left h2).resolve_left h3)]
/-- there is a PROGRAM on both, or on none -/
theorem Inv.has (h : Inv i s) : (s.1 0 8 = 0 ∧ s.1 97 10 = 0) ∨ (s.1 0 8 = 1 ∧ s.1 97 10 = 1) := by
  rcases h.2 with ⟨h1, h2, _⟩ | ⟨T, N, b, q, t, rs, kb, z, tr, cs, G, _⟩
  · exact Or.inl ⟨h1, h2⟩
  · exact Or.inr ⟨G.1.2.2.2.2, G.1.2.2.1⟩
theorem pair_start (h : Inv i s) (a c : Int32) : PairOK (Inv (i + 1)) 210 340 [.int a, .int c] s := by
  by_cases hn : s.1 0 8 = 0 ∨ a < 8 ∨ 4000 < a ∨ c < 1 ∨ ¬ c ≤ 40
  · refine ⟨0, s, s, start_cn hn, start_rn ?_, h.mono (by omega)⟩
    rcases hn with hn | hn
    · rcases h.has with e | e
      · exact Or.inl e.2
      · rw [e.1] at hn; exact absurd hn (by decide)
    · exact Or.inr hn
  have a0 : ¬ s.1 0 8 = 0 := fun x => hn (Or.inl x)
  have a1 : ¬ a < 8 := fun x => hn (Or.inr (Or.inl x))
  have a2 : ¬ 4000 < a := fun x => hn (Or.inr (Or.inr (Or.inl x)))
  have a3 : ¬ c < 1 := fun x => hn (Or.inr (Or.inr (Or.inr (Or.inl x))))
  have a4 : c ≤ 40 := Classical.byContradiction (fun x => hn (Or.inr (Or.inr (Or.inr (Or.inr x)))))
  obtain ⟨hB, hP⟩ := h
  rcases hP with ⟨h0, _⟩ | ⟨T, N, b, q, t, rs, kb, z, tr, cs, G, hR⟩
  · exact absurd h0 a0
  obtain ⟨wm, wm4, ew⟩ := nI_of2 (x := a) (M := 4000) (n := 4000) rfl (fun x => a1 (Int32.lt_trans x (by decide))) (Int32.not_lt.mp a2)
  obtain ⟨cm, cm4, ec⟩ := nI_of2 (x := c) (M := 40) (n := 40) rfl (fun x => a3 (Int32.lt_trans x (by decide))) a4
  have w8 : 8 ≤ wm := by
    by_cases g : wm < 8
    · exact absurd (show a < 8 by rw [ew]; exact nI_lt (b := 8) g (by decide)) a1
    · omega
  have c1 : 1 ≤ cm := by
    by_cases g : cm < 1
    · exact absurd (show c < 1 by rw [ec]; exact nI_lt (b := 1) g (by decide)) a3
    · omega
  have hq := G.isq
  obtain ⟨⟨g1, g2, g3, g4, g5⟩, ⟨P, Y, h384, hHB⟩, hJ, hPG, hC, hV⟩ := id G
  have hst : s.1 (q + 23) 384 = nI (pfC T t rs z tr (800 * b) cs 384 0) := by
    obtain ⟨sz, _, _, Gc⟩ := hC
    rw [(Gc 384 (Nat.le_refl _) rfl).1]
    rfl
  obtain ⟨s1, b1, ⟨b2', b3, b4⟩, b5, b6, b7⟩ := x_74 (d := 1994) (T := T) (L := t.1) (wm := wm) (cm := cm) (pf := pfC T t rs z tr (800 * b) cs) hPG.1.1 hst
  obtain ⟨s2, e2⟩ : ∃ y, y = uR s1 91 (updR (s1.2.2 91) 1 q) := ⟨_, rfl⟩
  obtain ⟨s3, e3⟩ : ∃ y, y = uI s2 91 (upd (s2.1 91) 5 0) := ⟨_, rfl⟩
  have i2 : s2.1 = s1.1 := by rw [e2]; rfl
  have f3 : ∀ h, ¬ (79 ≤ h ∧ h ≤ 91) → s3.1 h = s.1 h := fun h e => by rw [e3, uI_ne _ _ _ _ (by omega), i2, b6 h (by omega)]
  have l3 : s3.2.1 = s.2.1 := by
    rw [e3]
    show s2.2.1 = _
    rw [e2]
    exact b5
  have w3 : ∀ h, ¬ (h = 82 ∨ h = 91) → s3.2.2 h = s.2.2 h := fun h e => by
    rw [e3]
    show s2.2.2 h = _
    rw [e2, uR_ne _ _ _ _ (by omega)]
    exact b4 h (by omega)
  have w82 : s3.2.2 82 = s1.2.2 82 := by
    rw [e3]
    show s2.2.2 82 = _
    rw [e2, uR_ne _ _ _ _ (by decide)]
  have w91 : s3.2.2 91 1 = q := by
    rw [e3]
    show s2.2.2 91 1 = q
    rw [e2, uR_same]
    exact if_pos rfl
  have J3 : JKP T N b t rs z tr s3 := hJ.lo (fun h hh => f3 h (by omega)) (fun h _ => by rw [l3])
  obtain ⟨s4, d1, d2, d3, d4⟩ := x_340 (d := 1998) (T := T) (t := t) (s := s3) g1 (by rw [f3 97 (by omega)]; exact g3) (by rw [f3 97 (by omega)]; exact g2) w8 wm4 c1 cm4 ((J3.rpg hHB).2.2.2.2.1)
  have f4 : ∀ h, h < 97 → s4.1 h = s3.1 h := fun h e => funext fun j => d3.1 h j (fun x => by unfold chRn at x; omega)
  have l4 : s4.2.1 = s.2.1 := (funext fun h => funext fun j => d3.2.1 h j (fun x => x)).trans l3
  have r4 : s4.2.2 = s3.2.2 := d3.2.2
  have u4 : ∀ j, j < 95 → s4.1 97 j = s.1 97 j := fun j e => by rw [d3.1 97 j (fun x => by unfold chRn at x; omega), f3 97 (by omega)]
  have J4 : JKP T N b t rs z tr s4 := J3.keep (fun h j x => d3.1 h j (fun y => by have := inB_nr x; unfold chRn at y; omega)) (fun h j _ => d3.2.1 h j (fun x => x))
  refine ⟨1, s3, s4, ?_, ?_, ?_, Or.inr ⟨T, N, b, q, t, rs, kb, z, tr, cs, ?_, Or.inr ⟨wm, cm, aBeg, ⟨wm4, cm4⟩, ⟨by decide, by decide, by decide, Nat.zero_le _⟩, ⟨aBeg_ok c1, aBeg_y⟩, ?_, d2, ?_, ?_, ?_⟩⟩⟩
  · rw [show (1999 : Nat) = 1998 + 1 from rfl, e_210]
    unfold f_210 b_210_0
    rw [xg_0_8, if_neg a0, if_neg a1, if_neg a2, if_neg a3, if_pos a4, xg_0_12, xg_0_6, g4, xV_82, ew, ec, b1, bN_s, xg_0_13, xg_0_6, b4 0 (by decide), g4, xV_91, show (1998 : Nat) = 1997 + 1 from rfl, e_184]
    unfold f_184 b_184_0
    rw [xp_91_1, ← e2, xp_91_5 (by decide), ← e3, bN_s]
  · rw [ew, ec]
    exact d1
  · exact hB.keep (by rw [f4 0 (by omega), f3 0 (by omega)]) (by rw [f4 1 (by omega), f3 1 (by omega)]) ⟨u4 1 (by omega), u4 9 (by omega)⟩ (by rw [show s4.1 98 = s3.1 98 from funext fun j => d3.1 98 j (fun x => by unfold chRn at x; omega), f3 98 (by omega)]) ⟨by rw [l4], by rw [l4]⟩ (by rw [r4, w3 0 (by omega)]) (by rw [r4, w91]; exact hPG.1.1)
  · exact G.keep ⟨u4 9 (by omega), u4 10 (by omega)⟩ ⟨by rw [r4, w3 0 (by omega)], by rw [f4 0 (by omega), f3 0 (by omega)]⟩ (fun _ => J4) (fun h hh => by rw [f4 h (by omega), f3 h (by omega)]) (fun h _ => by rw [l4])
  · exact b7.hi (fun h hh => by rw [f4 h (by omega), e3, uI_ne _ _ _ _ (by omega), i2])
  · exact ⟨by rw [r4, w82]; exact b2', by rw [r4, w82]; exact b3, by rw [r4]; exact w91⟩
  · exact Or.inl (by rw [f4 91 (by omega), e3, uI_same, upd_g, if_pos rfl])
  · exact Or.inl d4
end MJB80
end
section
/-! ===== a load leaves the PROGRAM that is there ===== -/
section MJB81
variable {T : TT} {N b h kb q wm cm a j : Nat} {L : List CD} {t : PT} {rs : List RcM} {z : PB} {tr : Bool} {H : HEAP} {A : AMS} {s s' : mjSt3}
theorem dis_Rd (hh : h + b = 1) (x : inB h a j) : ¬ chRd b a j := by
  intro w
  have hb : b = 1 - h := by omega
  rcases x with x | x | x | x | x | x | x | x | x | x | x <;> rcases w with ((w | w | w | w | w | w | w) | w | w) | w | w | w | w | w | w | w <;> omega
theorem dis_JA (hh : h + b = 1) (x : inB h a j) : ¬ chJA b a j := by
  intro w
  have hb : b = 1 - h := by omega
  rcases x with x | x | x | x | x | x | x | x | x | x | x <;> rcases w with w | w | w | w | w | w | w | w | w | w | w | w | w | w <;> omega
theorem MRn.gen (M : MRn T t b wm cm A s) (e : ∀ j, (96 ≤ j ∧ j ≤ 106) ∨ j = 116 ∨ j = 118 ∨ j = 119 → s'.1 97 j = s.1 97 j) (er : ∀ h, 167 ≤ h ∧ h ≤ 176 → s'.1 h = s.1 h) : MRn T t b wm cm A s' := by
  obtain ⟨⟨⟨a1, a2, a3, a4⟩, ⟨a5, a6, a7⟩, ⟨a8, a9, a10⟩, ⟨a11, a12⟩, a13⟩, hH, hF, hT⟩ := M
  refine ⟨⟨⟨by rw [e 96 (by omega)]; exact a1, by rw [e 97 (by omega)]; exact a2, by rw [e 98 (by omega)]; exact a3, by rw [e 99 (by omega)]; exact a4⟩, ⟨by rw [e 100 (by omega)]; exact a5, by rw [e 105 (by omega)]; exact a6, by rw [e 106 (by omega)]; exact a7⟩, ⟨by rw [e 102 (by omega)]; exact a8, by rw [e 103 (by omega)]; exact a9, by rw [e 116 (by omega)]; exact a10⟩, ⟨by rw [e 101 (by omega)]; exact a11, by rw [e 104 (by omega)]; exact a12⟩, fun i h1 h2 => by rw [er 167 (by omega)]; exact a13 i h1 h2⟩, hH.keep (fun x hx => er x (by omega)), FRr.keep (fun x hx => er x (by omega)) _ hF, fun g gs hg => ?_⟩
  obtain ⟨c1, c2, c3⟩ := hT g gs hg
  exact ⟨by rw [e 119 (by omega)]; exact c1, by rw [e 118 (by omega)]; exact c2, STr.low _ (fun j _ => by rw [er 176 (by omega)]) c3⟩
theorem KNm.gen (K : KNm T L H s) (e : s'.1 97 126 = s.1 97 126 ∧ s'.1 97 127 = s.1 97 127) (er : s'.1 181 = s.1 181) : KNm T L H s' := by
  unfold KNm
  rw [e.1, e.2, er]
  exact K
/-- what a refused load of the reference leaves -/
theorem oLm_97j (o : oLm b s s') (hj : ¬ (j = 1 ∨ j = 2 ∨ j = 3 ∨ j = 4 ∨ j = 5 ∨ j = 6 ∨ (59 ≤ j ∧ j ≤ 67) ∨ j = 71 ∨ j = 76 ∨ j = 77 ∨ j = 82 ∨ j = 87 ∨ j = 88 ∨ j = 92 ∨ j = 95 ∨ j = 129 ∨ j = 132 ∨ j = 133)) : s'.1 97 j = s.1 97 j := by
  refine o.1 97 j (fun w => ?_)
  rcases w with (((w | w | w | w | w | w | w) | w | w) | w | w | w | w | w | w | w) | (w | w | w | w | w | w | w | w | w | w | w | w | w | w) | w <;> omega
theorem oLm_h (o : oLm b s s') (ha : a < 97 ∨ a = 98 ∨ (167 ≤ a ∧ a ≤ 181)) : s'.1 a = s.1 a := by
  funext y
  refine o.1 a y (fun w => ?_)
  rcases w with (((w | w | w | w | w | w | w) | w | w) | w | w | w | w | w | w | w) | (w | w | w | w | w | w | w | w | w | w | w | w | w | w) | w <;> omega
end MJB81
end
