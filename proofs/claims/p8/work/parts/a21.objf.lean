/-! ===== which FIELDS hold OBJECTS ===== -/
def lb (x : Int64) (i : Nat) : Bool := x.toBitVec.getLsbD i
theorem lb_or (x y : Int64) (i : Nat) : lb (x ||| y) i = (lb x i || lb y i) := by
  unfold lb
  rw [Int64.toBitVec_or, BitVec.getLsbD_or]
theorem lb_tp : ∀ k, k < 64 → ((1 : Int64) <<< ((nI k).toInt64 &&& 63)).toBitVec = BitVec.twoPow 64 k := by decide +kernel
theorem lb_one {k i : Nat} (hk : k < 64) : lb ((1 : Int64) <<< ((nI k).toInt64 &&& 63)) i = decide (k = i) := by
  unfold lb
  rw [lb_tp k hk, BitVec.getLsbD_twoPow]
  simp [hk]
theorem lb_0 (i : Nat) : lb 0 i = false := by
  unfold lb
  rw [show (0 : Int64).toBitVec = 0#64 from rfl, BitVec.getLsbD_zero]
/-- the number of MEMBER m: a FIELD's place, or which METHOD of its CLASS -/
def nuM (L : List CD) (m : Nat) : Nat := cntB (mSM L m) ((match L[hmM L m]? with
  | some D => D.2
  | none => []).take (m - fmL L (hmM L m)))
def numM (T : TT) (L : List CD) (m : Nat) : Nat := if mSM L m = true then nuM L m else nuM L m + (fldT T L (hmM L m) - oflL L (hmM L m))
def obM (T : TT) (L : List CD) (m c i : Nat) : Bool := !mSM L m && decide (2 ≤ tyM T L m) && (vwT (nmL L) (abT T L) c (hmM L m)).isSome && decide (numM T L m = i)
/-- FIELD i of CLASS c holds OBJECTS -/
def obT (T : TT) (L : List CD) (c i : Nat) : Bool := anyB (fun m => obM T L m c i) (nMem L)
def OBr (q : Nat) (s : mjSt3) (n : Nat) (w : Nat → Nat → Bool) : Prop := ∀ c, c < n → ∀ i, i < 384 → lb (s.2.1 (q + 13) (6 * c + i / 64)) (i % 64) = w c i
def oOb (q : Nat) : mjSt3 → mjSt3 → Prop := offG (fun _ _ => False) (fun h _ => h = q + 13)
/-- the rows of numbers -/
def NUr (T : TT) (L : List CD) (q : Nat) (s : mjSt3) : Prop := ∀ m, m < nMem L → s.1 (q + 19) m = nI (numM T L m) ∧ numM T L m < 384
section MJA21
variable {T : TT} {d N q c t n e k u v i m o : Nat} {s s' : mjSt3} {L : List CD}
theorem L120_S (R : mjR) (n a : Nat) (b : Int32) (hp : mjH) : L_120_2 R (n + 1) a b hp = b_120_2 R (L_120_2 R n) a b hp := rfl
theorem L120b_S (R : mjR) (k2 : Nat → Int32 → mjH → mjU) (n a : Nat) (b e : Int32) (hp : mjH) : L_120_15 R k2 (n + 1) a b e hp = b_120_15 R k2 (L_120_15 R k2 n) a b e hp := rfl
theorem oOb.ii (o : oOb q s s') : s'.1 = s.1 := funext fun h => funext fun j => o.1 h j (fun e => e)
theorem oOb.l (o : oOb q s s') {h : Nat} (hh : ¬ h = q + 13) : s'.2.1 h = s.2.1 h := funext fun j => o.2.1 h j hh
theorem lq_120b (hn : HN T N L) (hq : isP q) (k2 : Nat → Int32 → mjH → mjU) (hm : m < nMem L) : ∀ (r c n : Nat) (s : mjSt3), c + r = L.length → r < n → s.1 q 0 = nI L.length → RDM T N q L s → VWS T L q s → TYr T L q s m → NUr T L q s → (OBr q s L.length (fun c' i => anyB (fun m => obM T L m c' i) m || (decide (c' < c) && obM T L m c' i))) → ∃ s', L_120_15 (mjF (d + 1)) k2 n q (nI m) (nI c) (mjW0 s) = k2 q (nI (m + 1)) (mjW0 s') ∧ oOb q s s' ∧ OBr q s' L.length (fun c' i => anyB (fun m => obM T L m c' i) (m + 1))
  | 0, c, n + 1, s, e, _, h0, D, V, Y, U, w => by
    have h16 := hn.1
    refine ⟨s, ?_, offG.rf, fun c' hc i hi => ?_⟩
    · rw [L120b_S]
      unfold b_120_15 b_120_103
      rw [yg_0 hq, h0, if_pos (nI_le (by omega) (by omega)), nI_1]
    · rw [w c' hc i hi]
      dsimp only
      have : decide (c' < c) = true := decide_eq_true (by omega)
      rw [this, Bool.true_and]
      rfl
  | r + 1, c, n + 1, s, e, hr, h0, D, V, Y, U, w => by
    have h16 := hn.1
    have hc : c < L.length := by omega
    obtain ⟨d1, d2, d3, d4, d5⟩ := id D
    obtain ⟨m1, m2, m3, m4, m5, m6, m7⟩ := d5 m hm
    have tv : vT L (tyM T L m) := ty_v hn (fun c hc => by cases hc; exact m2)
    have tl := tv.lt hn
    have pre : L_120_15 (mjF (d + 1)) k2 (n + 1) q (nI m) (nI c) (mjW0 s) = _ := L120b_S _ _ _ _ _ _ _
    unfold b_120_15 b_120_103 b_120_97 at pre
    rw [yg_0 hq, h0, if_neg (nI_ge (by omega) (by omega)), yg_14 hq, ymg_4 hq, wya_18 hq (by omega), m6, b2_i] at pre
    have none_ : (∀ c' i, obM T L m c' i = false) → L_120_15 (mjF (d + 1)) k2 (n + 1) q (nI m) (nI c) (mjW0 s) = k2 q (nI (m + 1)) (mjW0 s) → ∃ s', L_120_15 (mjF (d + 1)) k2 (n + 1) q (nI m) (nI c) (mjW0 s) = k2 q (nI (m + 1)) (mjW0 s') ∧ oOb q s s' ∧ OBr q s' L.length (fun c' i => anyB (fun m => obM T L m c' i) (m + 1)) := by
      intro z pr
      refine ⟨s, pr, offG.rf, fun c' hc' i hi => ?_⟩
      rw [w c' hc' i hi]
      dsimp only
      rw [z, Bool.and_false, Bool.or_false]
      show _ = (anyB (fun m => obM T L m c' i) m || obM T L m c' i)
      rw [z, Bool.or_false]
    cases hs : mSM L m with
    | true =>
      rw [show (mdM L m).2.2.1 = true from hs, if_pos rfl, nI_1] at pre
      exact none_ (fun c' i => by unfold obM; rw [hs]; rfl) pre
    | false =>
      rw [show (mdM L m).2.2.1 = false from hs, if_neg (by decide), yg_14 hq, ymg_3 hq, wya_17 hq (by omega), Y.1] at pre
      by_cases g2 : 2 ≤ tyM T L m
      · rw [if_neg (show ¬ tyI (tyT T L (some (hmM L m)) (mdM L m).1) < 0 from fun x => by have := (tyI_neg tl).mp x; omega), yg_14 hq, ymg_2 hq, wya_16 hq (by omega), m1, yV hq, x_view hq (by omega) (by omega), bI_s] at pre
        have vn := vw_nn hn V hc m2
        have nxt : ∀ z, oOb q s z → OBr q z L.length (fun c' i => anyB (fun m => obM T L m c' i) m || (decide (c' < c + 1) && obM T L m c' i)) → L_120_15 (mjF (d + 1)) k2 (n + 1) q (nI m) (nI c) (mjW0 s) = L_120_15 (mjF (d + 1)) k2 n q (nI m) (nI (c + 1)) (mjW0 z) → ∃ s', L_120_15 (mjF (d + 1)) k2 (n + 1) q (nI m) (nI c) (mjW0 s) = k2 q (nI (m + 1)) (mjW0 s') ∧ oOb q s s' ∧ OBr q s' L.length (fun c' i => anyB (fun m => obM T L m c' i) (m + 1)) := by
          intro z oz wz pr
          have ei := oz.ii
          obtain ⟨s', a1, a2, a3⟩ := lq_120b hn hq k2 hm r (c + 1) n z (by omega) (by omega) (by rw [ei]; exact h0) (by unfold RDM; rw [ei, oz.l (by omega), oz.l (by have : q = 2 ∨ q = 30 := hq; omega)]; exact D) (by unfold VWS; rw [ei]; exact V) (by unfold TYr; rw [ei]; exact Y) (by unfold NUr; rw [ei]; exact U) wz
          exact ⟨s', pr.trans a1, oz.tr a2, a3⟩
        by_cases gv : (vwT (nmL L) (abT T L) c (hmM L m)).isSome = true
        · obtain ⟨u1, u2⟩ := U m hm
          rw [if_neg (Int32.not_lt.mpr (vn.mpr gv)), yg_14 hq, ymg_5 hq, wya_19 hq (by omega), u1, yg_13 hq, show nI (numM T L m) / (64 : Int32) = nI (numM T L m / 64) from pk_div (d := 64) (by omega) (by decide) (by decide), show nI c * (6 : Int32) + nI (numM T L m / 64) = nI (6 * c + numM T L m / 64) by rw [show (6 : Int32) = nI 6 from rfl, nI_mul, nI_add, Nat.mul_comm], wya_13 hq (by omega), wys_13 hq (by omega), show nI (numM T L m) - nI (numM T L m / 64) * (64 : Int32) = nI (numM T L m % 64) by rw [show (64 : Int32) = nI 64 from rfl, nI_mul, pk_sub (by omega), show numM T L m - numM T L m / 64 * 64 = numM T L m % 64 by omega], nI_1] at pre
          refine nxt _ (offG.wl rfl) (fun c' hc' i hi => ?_) pre
          rw [uL_same]
          show lb (if 6 * c' + i / 64 = 6 * c + numM T L m / 64 then _ else s.2.1 (q + 13) (6 * c' + i / 64)) (i % 64) = _
          have w0 := w c' hc' i hi
          dsimp only at w0 ⊢
          by_cases e1 : 6 * c' + i / 64 = 6 * c + numM T L m / 64
          · have ec : c' = c := by omega
            subst ec
            have ed : i / 64 = numM T L m / 64 := by omega
            rw [if_pos e1, lb_or, lb_one (by omega), ← e1, w0]
            have h1 : decide (c' < c') = false := decide_eq_false (by omega)
            have h2 : decide (c' < c' + 1) = true := decide_eq_true (by omega)
            have h3 : obM T L m c' i = decide (numM T L m % 64 = i % 64) := by
              unfold obM
              rw [hs, gv, decide_eq_true g2]
              show decide (numM T L m = i) = _
              exact decide_eq_decide.mpr (by omega)
            rw [h1, h2, h3, Bool.false_and, Bool.or_false, Bool.true_and]
          · rw [if_neg e1, w0]
            by_cases ec : c' = c
            · subst ec
              have h1 : decide (c' < c') = false := decide_eq_false (by omega)
              have h3 : obM T L m c' i = false := by
                unfold obM
                have : decide (numM T L m = i) = false := decide_eq_false (by intro x; apply e1; rw [x])
                rw [this, Bool.and_false]
              rw [h3, Bool.and_false, Bool.and_false]
            · have : decide (c' < c + 1) = decide (c' < c) := decide_eq_decide.mpr (by omega)
              rw [this]
        · rw [if_pos (Int32.not_le.mp (fun x => gv (vn.mp x))), nI_1] at pre
          refine nxt s offG.rf (fun c' hc' i hi => ?_) pre
          rw [w c' hc' i hi]
          dsimp only
          by_cases ec : c' = c
          · subst ec
            have h3 : obM T L m c' i = false := by
              unfold obM
              rw [show (vwT (nmL L) (abT T L) c' (hmM L m)).isSome = false by simpa using gv, Bool.and_false]
              rfl
            rw [h3, Bool.and_false, Bool.and_false]
          · have : decide (c' < c + 1) = decide (c' < c) := decide_eq_decide.mpr (by omega)
            rw [this]
      · rw [if_pos (show tyI (tyT T L (some (hmM L m)) (mdM L m).1) < 0 from (tyI_neg tl).mpr (by omega)), nI_1] at pre
        exact none_ (fun c' i => by unfold obM; rw [decide_eq_false g2, Bool.and_false]; rfl) pre
theorem lq_120 (hn : HN T N L) (hq : isP q) : ∀ (r m n : Nat) (s : mjSt3), m + r = nMem L → r < n → s.1 q 0 = nI L.length → RDM T N q L s → VWS T L q s → (∀ m, m < nMem L → TYr T L q s m) → NUr T L q s → (OBr q s L.length (fun c' i => anyB (fun m => obM T L m c' i) m)) → ∃ s', L_120_2 (mjF (d + 1)) n q (nI m) (mjW0 s) = some (none, mjW0 s') ∧ oOb q s s' ∧ OBr q s' L.length (obT T L)
  | 0, m, n + 1, s, e, _, h0, D, V, Y, U, w => by
    refine ⟨s, ?_, offG.rf, ?_⟩
    · rw [L120_S]
      unfold b_120_2
      rw [yg_14 hq, ymg_0 hq, D.2.1, if_pos (nI_le (by omega) (by have := D.2.2.1; omega))]
    · rw [show m = nMem L by omega] at w
      exact w
  | r + 1, m, n + 1, s, e, hr, h0, D, V, Y, U, w => by
    have h16 := hn.1
    have hm : m < nMem L := by omega
    have d3 := D.2.2.1
    obtain ⟨z, a1, a2, a3⟩ := lq_120b (d := d) hn hq (L_120_2 (mjF (d + 1)) n) hm L.length 0 mjN s (by omega) (by have := mjN_v; omega) h0 D V (Y m hm) U (fun c' hc' i hi => by
      have : decide (c' < 0) = false := decide_eq_false (by omega)
      rw [w c' hc' i hi]
      dsimp only
      rw [this, Bool.false_and, Bool.or_false])
    have ei := a2.ii
    obtain ⟨s', b1, b2', b3⟩ := lq_120 hn hq r (m + 1) n z (by omega) (by omega) (by rw [ei]; exact h0) (by unfold RDM; rw [ei, a2.l (by omega), a2.l (by have : q = 2 ∨ q = 30 := hq; omega)]; exact D) (by unfold VWS; rw [ei]; exact V) (by unfold TYr; rw [ei]; exact Y) (by unfold NUr; rw [ei]; exact U) a3
    refine ⟨s', ?_, a2.tr b2', b3⟩
    rw [L120_S]
    unfold b_120_2
    rw [yg_14 hq, ymg_0 hq, D.2.1, if_neg (nI_ge (by omega) (by omega))]
    exact a1.trans b1
/-- fillObjectFields -/
theorem x_120 (hn : HN T N L) (hq : isP q) (h0 : s.1 q 0 = nI L.length) (D : RDM T N q L s) (V : VWS T L q s) (Y : ∀ m, m < nMem L → TYr T L q s m) (U : NUr T L q s) (w : ∀ j, j < 96 → s.2.1 (q + 13) j = 0) : ∃ s', mjF (d + 2) 120 [.ref q] (mjW0 s) = some (none, mjW0 s') ∧ oOb q s s' ∧ OBr q s' L.length (obT T L) := by
  obtain ⟨s', a1, a2, a3⟩ := lq_120 (d := d) hn hq (nMem L) 0 mjN s (by omega) (by have := D.2.2.1; have := mjN_v; omega) h0 D V Y U (fun c hc i hi => by
    rw [w _ (by have := hn.1; omega), lb_0]
    rfl)
  refine ⟨s', ?_, a2, a3⟩
  rw [e_120]
  unfold f_120 b_120_0
  exact a1
end MJA21
