/-! ===== the class's RUN is the pure one ===== -/
section MJB71
variable {T : TT} {d N k0 kb wm cm pc k q sz i m n nn left steps : Nat} {t : PT} {rs : List RcM} {z : PB} {tr : Bool} {H : HEAP} {r : Row} {f : FRM} {fs : List FRM} {st : List Int32} {sc : SCL} {s s' : mjSt3} {cs : Nat → Nat} {A A1 B : AMS} {x : Ins}
theorem L76_S (R : mjR) (n a : Nat) (i : Int32) (hp : mjH) : L_76_2 R (n + 1) a i hp = b_76_2 R (L_76_2 R n) a i hp := rfl
theorem L75_S (R : mjR) (n a : Nat) (i j : Int32) (hp : mjH) : L_75_6 R (n + 1) a i j hp = b_75_6 R (L_75_6 R n) a i j hp := rfl
theorem x_77 (hq : isP q) (h3 : s.2.2 82 3 = q + 24) (h4 : s.1 82 4 = nI pc) (h : INS q s pc sz x) : mjF (d + 1) 77 [.ref 82] (mjW0 s) = some (some (.int (if (10 : Int32) ≤ x.1 then 0 else 1)), mjW0 s) := by
  obtain ⟨⟨a1, a2, a3⟩, a4, a5, a6⟩ := h
  rw [e_77]
  unfold f_77 b_77_0 b_77_35
  rw [xg_82_4, xg_82_3, h3, ycg_3 hq, a6, h4, if_neg (nI_ge a4 (by omega)), xg_82_3, h3, ycg_0 hq, xg_82_4, h4, wya_25 hq (by omega), a1]
  by_cases g : (10 : Int32) ≤ x.1
  · rw [if_pos g, if_pos g]
  · rw [if_neg g, if_neg g]
/-- a round of coast -/
theorem co_round (hq : isP q) (h3 : s.2.2 82 3 = q + 24) (h8 : s.1 82 8 = 1) (h4 : s.1 82 4 = nI pc) (hI : INS q s pc sz x) (hx : x.1 < 10) (hi : i < 1000000) (w : mjF (d + 6) 78 [.ref 82, .int x.1, .int x.2.1, .int x.2.2] (mjW0 (pcN s (pc + 1))) = some (none, mjW0 s')) : L_76_2 (mjF (d + 6)) (m + 1) 82 (nI i) (mjW0 s) = L_76_2 (mjF (d + 6)) m 82 (nI (i + 1)) (mjW0 s') := by
  have n10 : ¬ (10 : Int32) ≤ x.1 := Int32.not_le.mpr hx
  have x77 := x_77 (d := d + 5) hq h3 h4 hI
  rw [if_neg n10] at x77
  obtain ⟨⟨a1, a2, a3⟩, a4, a5, a6⟩ := hI
  have hq' : q = 2 ∨ q = 30 := hq
  obtain ⟨s1, g1⟩ : ∃ y, y = pcN s (pc + 1) := ⟨_, rfl⟩
  have r1 : ∀ h, ¬ h = 82 → s1.1 h = s.1 h := fun h e => by rw [g1]; exact uI_ne _ _ _ _ e
  have h3' : s1.2.2 82 3 = q + 24 := by rw [g1]; exact h3
  rw [← g1] at w
  unfold pcN at g1
  rw [L76_S]
  unfold b_76_2
  rw [if_neg (show ¬ (1000000 : Int32) ≤ nI i from nI_ge (b := 1000000) hi (by decide)), xg_82_8, h8, if_pos rfl, xV_82, x77, bI_s, if_neg (show ¬ ((1 : Int32) = 0) by decide), xg_82_4, xg_82_4, h4, nI_1 pc, xp_82_4, ← g1, xg_82_3, h3', ycg_0 hq, wya_25 hq (by omega), r1 (q + 25) (by omega), a1, xg_82_3, h3', ycg_1 hq, wya_26 hq (by omega), r1 (q + 26) (by omega), a2, xg_82_3, h3', ycg_2 hq, wya_27 hq (by omega), r1 (q + 27) (by omega), a3, xV_82, w, bN_s, nI_1 i]
theorem co_x1 (h8 : ¬ s.1 82 8 = 1) (hi : i < 1000000) : L_76_2 (mjF d) (m + 1) 82 (nI i) (mjW0 s) = some (none, mjW0 s) := by
  rw [L76_S]
  unfold b_76_2
  rw [if_neg (show ¬ (1000000 : Int32) ≤ nI i from nI_ge (b := 1000000) hi (by decide)), xg_82_8, if_neg h8]
theorem co_x2 (hq : isP q) (h3 : s.2.2 82 3 = q + 24) (h8 : s.1 82 8 = 1) (h4 : s.1 82 4 = nI pc) (hI : INS q s pc sz x) (hx : ¬ x.1 < 10) (hi : i < 1000000) : L_76_2 (mjF (d + 1)) (m + 1) 82 (nI i) (mjW0 s) = some (none, mjW0 s) := by
  have n10 : (10 : Int32) ≤ x.1 := Int32.not_lt.mp hx
  have x77 := x_77 (d := d) hq h3 h4 hI
  rw [if_pos n10] at x77
  rw [L76_S]
  unfold b_76_2
  rw [if_neg (show ¬ (1000000 : Int32) ≤ nI i from nI_ge (b := 1000000) hi (by decide)), xg_82_8, h8, if_pos rfl, xV_82, x77, bI_s, if_pos rfl]
/-- at rest: the RUN has ended, or the next order takes a STEP -/
def rstA (rs : List RcM) (z : PB) (A : AMS) : Prop := (¬ A.2.2.2.2.2.2.2.2.1 = 1) ∨ costs (aOrd rs z A) = true
theorem nI_ph {p : Nat} (h3 : p ≤ 3) : nI p = 1 ↔ p = 1 := nI_eq (b := 1) (by omega) (by omega)
theorem CIn.ph8 (I : CIn T k0 q t rs z tr cs wm cm A s) : s.1 82 8 = nI A.2.2.2.2.2.2.2.2.1 := I.1.1.1.1
/-- coast -/
theorem lq_76 (P : PRX T N k0 t rs kb z tr) (Y : SYX t rs z) (wm4 : wm ≤ 4000) (cm4 : cm ≤ 40) (h384 : ∀ c, fldT T t.1 c ≤ 384) : ∀ (n m i : Nat) (A B : AMS) (s : mjSt3), i + 2 * n < 1000000 → 2 * n + 1 < m → A.2.2.2.2.2.2.2.2.1 ≤ 3 → YI rs z A → A.2.2.2.2.2.2.2.1 < 100000000 → CIn T k0 q t rs z tr cs wm cm A s → aCo T t rs z tr k0 wm cm n A = some B → ∃ s', CIn T k0 q t rs z tr cs wm cm B s' ∧ oCn s s' ∧ L_76_2 (mjF (d + 6)) m 82 (nI i) (mjW0 s) = some (none, mjW0 s') ∧ YI rs z B ∧ B.2.2.2.2.2.2.2.1 = A.2.2.2.2.2.2.2.1 ∧ rstA rs z B ∧ B.2.2.2.2.2.2.2.2.1 ≤ 3
  | 0, m, i, A, B, s, hi, hm, p3, hY, hs, I, h => by cases h
  | n + 1, 0, i, A, B, s, hi, hm, p3, hY, hs, I, h => by omega
  | n + 1, 1, i, A, B, s, hi, hm, p3, hY, hs, I, h => by omega
  | n + 1, m + 2, i, A, B, s, hi, hm, p3, hY, hs, I, h => by
    unfold aCo at h
    by_cases ph : A.2.2.2.2.2.2.2.2.1 = 1
    · rw [if_neg (fun g => g ph)] at h
      obtain ⟨H, f, fs, k, st, sc, eA, ph'⟩ := I.2.2.2.1.fr ph
      have hq : isP q := I.2.1.1.1.1
      have h3 : s.2.2 82 3 = q + 24 := I.2.1.2.2
      have h8 : s.1 82 8 = 1 := by rw [I.ph8, ph]; rfl
      have I1 := I
      rw [eA] at I1
      have hY1 := hY
      rw [eA] at hY1
      have hs1 : sc.2.1 < 100000000 := by
        have a1 : sc.2.1 ≤ sc.2.2.2.1 := hY1.le
        have a2 : A.2.2.2.2.2.2.2.1 = sc.2.2.2.1 := by rw [eA]
        omega
      have hY2 := hY1.one P Y I1.2.2.2.1 ph'
      have hl : (f :: fs).length ≤ 40 := Nat.le_trans I1.2.2.2.1.2.2.1 cm4
      have p32 := aStep_sc (T := T) (L := t.1) (E := EMx T t tr k0 f.1) (j := jX T t rs z tr k0 f.1 k) (i0 := i0T t f.1) (wm := wm) (cm := cm) (r := aOrd rs z (H, f :: fs, k, st, sc)) (H := H) (k := k + 1) (st := st) (sc := aTick sc (costs (aOrd rs z (H, f :: fs, k, st, sc)))) I1.2.2.2.2 (show sc.2.2.2.2.1 ≤ 3 by omega) hl
      have p33 : (aOne T t rs z tr k0 wm cm (H, f :: fs, k, st, sc)).2.2.2.2.2.2.2.2.1 ≤ 3 := p32.2.2
      have st2 := aOne_st (T := T) (t := t) (rs := rs) (z := z) (tr := tr) (k0 := k0) (wm := wm) (cm := cm) (H := H) (f := f) (fs := fs) (k := k) (st := st) (sc := sc)
      have es : A.2.2.2.2.2.2.2.1 = sc.2.2.2.1 := by rw [eA]
      cases hkr : (osM rs z f.1)[k]? with
      | none =>
        have ord : aOrd rs z (H, f :: fs, k, st, sc) = oOver := by
          show ((osM rs z f.1)[k]?).getD oOver = oOver
          rw [hkr]
          rfl
        have nc : ¬ costs (aOrd rs z A) = true := by rw [eA, ord]; decide
        rw [if_neg nc] at h
        rw [← eA] at ord st2 hY2 p33
        rw [if_neg nc] at st2
        obtain ⟨pc, sz, s1, s2, j1, j2, j3, j4, j5, j6, j7, j8, j9, j10⟩ := end_c (d := d) P wm4 cm4 I1 ph' hkr
        rw [← eA] at j10
        obtain ⟨s', e1, e2, e3, e4, e5, e6, e7⟩ := lq_76 P Y wm4 cm4 h384 n m (i + 2) _ B s2 (by omega) (by omega) p33 hY2 (by omega) j10 h
        refine ⟨s', e1, offG.tr j9 e2, ?_, e4, by omega, e6, e7⟩
        rw [co_round hq h3 h8 j3 j1 (show (0 : Int32) < 10 by decide) (by omega) j4, co_round hq j7 j6 j5 j2 (show (9 : Int32) < 10 by decide) (by omega) j8]
        exact e3
      | some r =>
        have ord : aOrd rs z (H, f :: fs, k, st, sc) = r := by
          show ((osM rs z f.1)[k]?).getD oOver = r
          rw [hkr]
          rfl
        have o1 := one_c (d := d) P wm4 cm4 h384 I1 ph' hs1 hkr
        rw [← eA] at ord o1 st2 hY2 p33
        rw [ord] at h st2
        by_cases c : costs r = true
        · rw [if_pos c] at h
          have eB := Option.some.inj h
          rw [← eB]
          refine ⟨s, I, offG.rf, ?_, hY, rfl, Or.inr (by rw [ord]; exact c), p3⟩
          rcases o1 with ⟨c1, _⟩ | ⟨x, pc, sz, x1, x2, ⟨_, c1, _⟩ | ⟨x3, _⟩⟩
          · rw [c] at c1; cases c1
          · rw [c] at c1; cases c1
          · exact co_x2 hq h3 h8 x2 x1 x3 (by omega)
        · rw [if_neg c] at h st2
          rcases o1 with ⟨c1, c2⟩ | ⟨x, pc, sz, x1, x2, ⟨x3, c1, s1, w1, w2, w3⟩ | ⟨x3, c1, _⟩⟩
          · obtain ⟨s', e1, e2, e3, e4, e5, e6, e7⟩ := lq_76 P Y wm4 cm4 h384 n (m + 2) i _ B s (by omega) (by omega) p33 hY2 (by omega) c2 h
            exact ⟨s', e1, e2, e3, e4, by omega, e6, e7⟩
          · obtain ⟨s', e1, e2, e3, e4, e5, e6, e7⟩ := lq_76 P Y wm4 cm4 h384 n (m + 1) (i + 1) _ B s1 (by omega) (by omega) p33 hY2 (by omega) w3 h
            refine ⟨s', e1, offG.tr w2 e2, ?_, e4, by omega, e6, e7⟩
            rw [co_round hq h3 h8 x2 x1 x3 (by omega) w1]
            exact e3
          · exact absurd c1 c
    · rw [if_pos ph] at h
      have eB := Option.some.inj h
      rw [← eB]
      refine ⟨s, I, offG.rf, co_x1 (fun e => ph ?_) (by omega), hY, rfl, Or.inl ph, p3⟩
      rw [I.ph8] at e
      exact (nI_ph p3).mp e
theorem aCo_some (P : PRX T N k0 t rs kb z tr) (wm4 : wm ≤ 4000) : ∀ (n : Nat) (A : AMS), AOK T t rs z tr k0 wm cm A → cwA rs z A < n → ∃ B, aCo T t rs z tr k0 wm cm n A = some B
  | 0, A, hA, h => by omega
  | n + 1, A, hA, h => by
    unfold aCo
    by_cases ph : A.2.2.2.2.2.2.2.2.1 = 1
    · rw [if_neg (fun g => g ph)]
      obtain ⟨H, f, fs, k, st, sc, eA, ph'⟩ := hA.fr ph
      have hA1 := hA
      rw [eA] at hA1
      have hA2 := hA1.one P wm4 ph'
      rw [← eA] at hA2
      by_cases c : costs (aOrd rs z A) = true
      · rw [if_pos c]; exact ⟨A, rfl⟩
      · rw [if_neg c]
        have w : cwA rs z (aOne T t rs z tr k0 wm cm A) < cwA rs z A := by
          rw [eA]
          rw [eA] at c
          exact cw_dec P hA1 ph' (by
            cases g : costs (aOrd rs z (H, f :: fs, k, st, sc)) with
            | true => exact absurd g c
            | false => rfl)
        exact aCo_some P wm4 n _ hA2 (by omega)
    · rw [if_pos ph]; exact ⟨A, rfl⟩
/-- a RUN from behind what takes no STEP -/
theorem aRun_co : ∀ (m n left : Nat) (A A1 B : AMS), aCo T t rs z tr k0 wm cm m A = some A1 → aRun T t rs z tr k0 wm cm n left A = some B → ∃ n', aRun T t rs z tr k0 wm cm n' left A1 = some B
  | 0, n, left, A, A1, B, h, g => by cases h
  | m + 1, 0, left, A, A1, B, h, g => by cases g
  | m + 1, n + 1, left, A, A1, B, h, g => by
    unfold aCo at h
    by_cases ph : A.2.2.2.2.2.2.2.2.1 = 1
    · rw [if_neg (fun e => e ph)] at h
      by_cases c : costs (aOrd rs z A) = true
      · rw [if_pos c] at h
        have e := Option.some.inj h
        rw [← e]
        exact ⟨n + 1, g⟩
      · rw [if_neg c] at h
        unfold aRun at g
        rw [if_neg (fun e => e ph), if_neg c] at g
        exact aRun_co m n left _ A1 B h g
    · rw [if_pos ph] at h
      have e := Option.some.inj h
      rw [← e]
      exact ⟨n + 1, g⟩
end MJB71
