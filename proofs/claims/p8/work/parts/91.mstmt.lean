/-! ===== the reference reads STATEMENTS as the grammar ===== -/
section MJ91S
variable {T : TT} {M : Nat}
theorem pLoop_sh {sg : Int32 → Bool} {rd : Nat → Nat → PX} {kq : Nat} : ∀ (k : Nat) (z y : PZ), pLoop T sg rd kq k z = .inr y → y = z ∨ y.2.1 = 0
  | 0, z, y, h => by cases h; exact Or.inl rfl
  | k + 1, z, y, h => by
    unfold pLoop at h
    by_cases g : sg (T z.1).1 = true
    · rw [if_pos g] at h
      cases hd : rd (z.1 + 1) (kq + z.2.2.1.length) with
      | inl e => rw [hd] at h; cases h
      | inr w =>
        rw [hd] at h
        rcases pLoop_sh k _ y h with q | q
        · exact Or.inr (by rw [q])
        · exact Or.inr q
    · rw [if_neg g] at h
      cases h
      exact Or.inl rfl
theorem pPost_sh {ra : Nat → Nat → PX} {kq c : Nat} (hr : ∀ c kq y, ra c kq = .inr y → lnZ c 1 y) : ∀ (k : Nat) (z y : PZ), c < z.1 → z.2.2.2.1.length ≤ z.1 - c → (z.2.1 = 3 → z.2.2.2.1.length + 1 ≤ z.1 - c) → pPost T ra kq k z = .inr y → y.2.1 = 3 → y.2.2.2.1.length + 1 ≤ y.1 - c
  | 0, z, y, _, _, hz, h => by cases h; exact hz
  | k + 1, z, y, a1, a2, hz, h => by
    unfold pPost at h
    by_cases g : (T z.1).1 = 20
    · rw [if_pos g] at h
      cases hd : pKind T (z.1 + 1) with
      | inl e => rw [hd] at h; cases h
      | inr c' =>
        rw [hd] at h
        have hw := pKind_len hd
        exact pPost_sh hr k _ y (by show c < c'; omega) (by simp only [List.length_append, List.length_singleton]; omega) (fun q => absurd (show (0 : Int32) = 3 from q) (by decide)) h
    · rw [if_neg g] at h
      by_cases g2 : (T z.1).1 = 46
      · rw [if_pos g2] at h
        by_cases g3 : (T (z.1 + 1)).1 = 3
        · rw [if_pos g3] at h
          by_cases g4 : (T (z.1 + 2)).1 = 40
          · rw [if_pos g4] at h
            cases hd : ra (z.1 + 2) (kq + z.2.2.1.length) with
            | inl e => rw [hd] at h; cases h
            | inr w =>
              rw [hd] at h
              obtain ⟨b1, b2, b3⟩ := hr _ _ _ hd
              refine pPost_sh hr k _ y (by show c < w.1; omega) ?_ (fun _ => ?_) h
              · simp only [List.length_append]; omega
              · simp only [List.length_append]; omega
          · rw [if_neg g4] at h
            refine pPost_sh hr k _ y (by show c < z.1 + 2; omega) ?_ (fun _ => ?_) h
            · simp only [List.length_append, List.length_singleton]; omega
            · simp only [List.length_append, List.length_singleton]; omega
        · rw [if_neg g3] at h; cases h
      · rw [if_neg g2] at h
        cases h
        exact hz
theorem pAtom_sh {rv : Nat → Nat → PX} {o c kq : Nat} {y : PZ} (h : pAtom T rv o c kq = .inr y) : ¬ y.2.1 = 3 := by
  unfold pAtom at h
  have n1 : ¬ (1 : Int32) = 3 := by decide
  have n0 : ¬ (0 : Int32) = 3 := by decide
  by_cases k3 : (T c).1 = 3
  · rw [if_pos k3] at h; cases h; exact n1
  rw [if_neg k3] at h
  by_cases k4 : (T c).1 = 4
  · rw [if_pos k4] at h; cases h; exact n0
  rw [if_neg k4] at h
  by_cases k11 : (T c).1 = 11
  · rw [if_pos k11] at h; cases h; exact n0
  rw [if_neg k11] at h
  by_cases k12 : (T c).1 = 12
  · rw [if_pos k12] at h; cases h; exact n0
  rw [if_neg k12] at h
  by_cases k14 : (T c).1 = 14
  · rw [if_pos k14] at h
    cases hd : pKind T (c + 1) with
    | inl e => rw [hd] at h; cases h
    | inr c' => rw [hd] at h; cases h; exact n0
  rw [if_neg k14] at h
  by_cases k40 : (T c).1 = 40
  · rw [if_pos k40] at h
    by_cases g2 : o = 12
    · rw [if_pos g2] at h; cases h
    · rw [if_neg g2] at h
      cases hd : rv (c + 1) kq with
      | inl e => rw [hd] at h; cases h
      | inr z =>
        rw [hd] at h
        by_cases g3 : (T z.1).1 = 41
        · simp only [if_pos g3] at h
          cases h
          exact n0
        · simp only [if_neg g3] at h; cases h
  · rw [if_neg k40] at h; cases h
/-- a call's orders are fewer than its tokens -/
theorem prE_sh : ∀ (f tag o c kq : Nat) (y : PZ), tag ≤ 4 → prE T M f tag o c kq = .inr y → y.2.1 = 3 → y.2.2.2.1.length + 1 ≤ y.1 - c
  | 0, _, _, _, _, _, _, h => by cases h
  | f + 1, 0, o, c, kq, y, _, h => by
    rw [prE_0] at h
    cases hd : prE T M f 1 o c kq with
    | inl e => rw [hd] at h; cases h
    | inr z =>
      rw [hd] at h
      by_cases g : isCmp (T z.1).1 = true
      · simp only [if_pos g] at h
        cases hd2 : prE T M f 1 o (z.1 + 1) (kq + z.2.2.1.length) with
        | inl e => rw [hd2] at h; cases h
        | inr w =>
          rw [hd2] at h
          cases h
          exact fun q => absurd (show (0 : Int32) = 3 from q) (by decide)
      · simp only [if_neg g] at h
        cases h
        exact prE_sh f 1 o c kq _ (by omega) hd
  | f + 1, 1, o, c, kq, y, _, h => by
    rw [prE_1] at h
    cases hd : prE T M f 2 o c kq with
    | inl e => rw [hd] at h; cases h
    | inr z =>
      rw [hd] at h
      rcases pLoop_sh M z y h with q | q
      · rw [q]; exact prE_sh f 2 o c kq z (by omega) hd
      · rw [q]; exact fun q => absurd q (by decide)
  | f + 1, 2, o, c, kq, y, _, h => by
    rw [prE_2] at h
    cases hd : prE T M f 3 o c kq with
    | inl e => rw [hd] at h; cases h
    | inr z =>
      rw [hd] at h
      rcases pLoop_sh M z y h with q | q
      · rw [q]; exact prE_sh f 3 o c kq z (by omega) hd
      · rw [q]; exact fun q => absurd q (by decide)
  | f + 1, 3, o, c, kq, y, _, h => by
    rw [prE_3] at h
    by_cases g : (T c).1 = 45
    · rw [if_pos g] at h
      by_cases g2 : o = 12
      · rw [if_pos g2] at h; cases h
      · rw [if_neg g2] at h
        cases hd : prE T M f 3 (o + 1) (c + 1) kq with
        | inl e => rw [hd] at h; cases h
        | inr z =>
          rw [hd] at h
          cases h
          exact fun q => absurd (show (0 : Int32) = 3 from q) (by decide)
    · rw [if_neg g] at h
      exact prE_sh f 4 o c kq y (by omega) h
  | f + 1, 4, o, c, kq, y, _, h => by
    rw [prE_4] at h
    cases hd : prE T M f 5 o c kq with
    | inl e => rw [hd] at h; cases h
    | inr z =>
      rw [hd] at h
      obtain ⟨a1, a2, a3⟩ : lnZ c 0 z := prE_len f 5 o c kq z (by omega) hd
      refine pPost_sh (fun c kq y hy => prE_len f 6 o c kq y (by omega) hy) M z y a1 (by omega) (fun q => ?_) h
      cases f with
      | zero => cases hd
      | succ f => rw [prE_5] at hd; exact absurd q (pAtom_sh hd)
end MJ91S
section MJ91A
variable {T : TT} {M o c td kq i0 N : Nat} {z : PB}
theorem pGive_b (hN : N ≤ 3000) (h0 : (T N).1 = 0) (ho : o ≤ 12) (hc : c < N) (htd : td ≤ 16) {w : Int32} (h : pGive T (N + 1) o c td kq w = .inr z) : bB N c z := by
  unfold pGive at h
  cases hd : prV T (N + 1) o (c + 1) kq with
  | inl e => rw [hd] at h; cases h
  | inr y =>
    rw [hd] at h
    obtain ⟨y1, y2, y3⟩ : lnZ (c + 1) 0 y := prE_len 100 0 _ _ _ y (by omega) hd
    have hyN := (prE_le hN h0 ho (show c + 1 ≤ N from hc)).1 (by omega) hd
    by_cases e : (T y.1).1 = 59
    · simp only [if_pos e] at h
      have hl := lt_N hN h0 hyN e (by decide)
      cases h
      refine ⟨by show c < y.1 + 1; omega, hl, ?_, ?_, htd⟩
      · show 6 * (oLine T c :: (y.2.2.2.1 ++ [_])).length ≤ 7 * (y.1 + 1 - c)
        rw [List.length_cons, List.length_append, List.length_singleton]; omega
      · show 4 * y.2.2.1.length ≤ y.1 + 1 - c; omega
    · simp only [if_neg e] at h; cases h
theorem pDecl_b (hN : N ≤ 3000) (h0 : (T N).1 = 0) (ho : o ≤ 12) (hc : c ≤ N) (htd : td ≤ 16) (h : pDecl T (N + 1) o c td kq = .inr z) : bB N c z := by
  unfold pDecl at h
  cases hp : pType T c with
  | inl e => rw [hp] at h; cases h
  | inr c1 =>
    rw [hp] at h
    have hc1 := pType_le hN h0 hc hp
    have hln := pType_len hp
    by_cases h3 : (T c1).1 = 3
    · simp only [if_pos h3] at h
      have hl1 := lt_N hN h0 hc1 h3 (by decide)
      by_cases h16 : td = 16
      · simp only [if_pos h16] at h; cases h
      · simp only [if_neg h16] at h
        by_cases h61 : (T (c1 + 1)).1 = 61
        · simp only [if_pos h61] at h
          have hl2 := lt_N hN h0 (show c1 + 1 ≤ N from hl1) h61 (by decide)
          cases hd : prV T (N + 1) o (c1 + 2) (kq + (if (T c).1 = 10 then 0 else 1)) with
          | inl e => rw [hd] at h; cases h
          | inr y =>
            rw [hd] at h
            obtain ⟨y1, y2, y3⟩ : lnZ (c1 + 2) 0 y := prE_len 100 0 _ _ _ y (by omega) hd
            have hyN := (prE_le hN h0 ho (show c1 + 2 ≤ N from hl2)).1 (by omega) hd
            by_cases e : (T y.1).1 = 59
            · simp only [if_pos e] at h
              have hl := lt_N hN h0 hyN e (by decide)
              cases h
              refine ⟨by show c < y.1 + 1; omega, hl, ?_, ?_, by show td + 1 ≤ 16; omega⟩
              · simp only [List.length_cons, List.length_append, List.length_nil]; omega
              · by_cases e10 : (T c).1 = 10
                · show 4 * ((if (T c).1 = 10 then [] else [c]) ++ y.2.2.1).length ≤ y.1 + 1 - c
                  rw [if_pos e10]; show 4 * y.2.2.1.length ≤ _; omega
                · show 4 * ((if (T c).1 = 10 then [] else [c]) ++ y.2.2.1).length ≤ y.1 + 1 - c
                  have := hln.2 e10
                  rw [if_neg e10, List.length_append, List.length_singleton]; omega
            · simp only [if_neg e] at h; cases h
        · simp only [if_neg h61] at h; cases h
    · simp only [if_neg h3] at h; cases h
theorem pUse_b (hN : N ≤ 3000) (h0 : (T N).1 = 0) (ho : o ≤ 12) (hc : c ≤ N) (htd : td ≤ 16) (h : pUse T (N + 1) o c td kq i0 = .inr z) : bB N c z := by
  unfold pUse at h
  cases hd : prV T (N + 1) o c kq with
  | inl e => rw [hd] at h; cases h
  | inr y =>
    rw [hd] at h
    obtain ⟨y1, y2, y3⟩ : lnZ c 0 y := prE_len 100 0 _ _ _ y (by omega) hd
    have hyN := (prE_le hN h0 ho hc).1 (by omega) hd
    obtain ⟨q, r, hq⟩ := snoc_of _ (prE_ne 100 0 _ _ _ y (by omega) hd)
    have ql : y.2.2.2.1.length = q.length + 1 := by rw [hq, List.length_append]; rfl
    by_cases hL : (T y.1).1 = 61 ∧ (y.2.1 = 1 ∨ y.2.1 = 2)
    · simp only [if_pos hL] at h
      have hl1 := lt_N hN h0 hyN hL.1 (by decide)
      cases hv : prV T (N + 1) o (y.1 + 1) (kq + y.2.2.1.length) with
      | inl e => rw [hv] at h; cases h
      | inr w =>
        rw [hv] at h
        obtain ⟨w1, w2, w3⟩ : lnZ (y.1 + 1) 0 w := prE_len 100 0 _ _ _ w (by omega) hv
        have hwN := (prE_le hN h0 ho (show y.1 + 1 ≤ N from hl1)).1 (by omega) hv
        by_cases e : (T w.1).1 = 59
        · simp only [if_pos e] at h
          have hl := lt_N hN h0 hwN e (by decide)
          cases h
          refine ⟨by show c < w.1 + 1; omega, hl, ?_, ?_, htd⟩
          · have ol : (oLeft y.2.1 y.2.2.2.1).length = q.length + 1 := by rw [hq, oLeft_end, List.length_append]; rfl
            simp only [List.length_cons, List.length_append, List.length_nil, ol]; omega
          · show 4 * (y.2.2.1 ++ w.2.2.1).length ≤ w.1 + 1 - c
            rw [List.length_append]; omega
        · simp only [if_neg e] at h; cases h
    · simp only [if_neg hL] at h
      by_cases hR : (T y.1).1 = 59 ∧ y.2.1 = 3
      · simp only [if_pos hR] at h
        have hl := lt_N hN h0 hyN hR.1 (by decide)
        cases h
        have sh := prE_sh 100 0 _ _ _ y (by omega) hd hR.2
        refine ⟨by show c < y.1 + 1; omega, hl, ?_, ?_, htd⟩
        · simp only [List.length_cons, List.length_append, List.length_nil]; omega
        · show 4 * y.2.2.1.length ≤ y.1 + 1 - c; omega
      · simp only [if_neg hR] at h; cases h
theorem pHd_b (hN : N ≤ 3000) (h0 : (T N).1 = 0) (ho : o ≤ 12) (hc : c < N) {y : PZ} (h : pHd T (N + 1) o c kq = .inr y) : o < 12 ∧ lnZ (c + 2) 0 y ∧ y.1 < N := by
  unfold pHd at h
  by_cases h40 : (T (c + 1)).1 = 40
  · rw [if_pos h40] at h
    have hc1 := lt_N hN h0 (show c + 1 ≤ N from hc) h40 (by decide)
    by_cases h12 : o = 12
    · rw [if_pos h12] at h; cases h
    · rw [if_neg h12] at h
      cases hd : prV T (N + 1) (o + 1) (c + 2) kq with
      | inl e => rw [hd] at h; cases h
      | inr w =>
        rw [hd] at h
        have hyN := (prE_le hN h0 (show o + 1 ≤ 12 by omega) (show c + 2 ≤ N from hc1)).1 (by omega) hd
        by_cases e : (T w.1).1 = 41
        · simp only [if_pos e] at h
          cases h
          exact ⟨by omega, prE_len 100 0 _ _ _ _ (by omega) hd, lt_N hN h0 hyN e (by decide)⟩
        · simp only [if_neg e] at h; cases h
  · rw [if_neg h40] at h; cases h
end MJ91A
section MJ91
variable {tx : Nat → Int32} {n b D N : Nat}
/-- STATEMENT, read by the loop -/
theorem st_ok (h0 : (mTT tx n N).1 = 0) (hN : N ≤ 3000) : ∀ (f o : Nat) (S : List SF) (k : Nat) (s : mjSt3) (W : List WF) (os : List Row) (ks : List Nat) (td : Nat), 2 * (12 - o) + 2 ≤ f → o ≤ 12 → S.length ≤ o → 1 ≤ S.length → k ≤ N → 6 * os.length ≤ 7 * k → 4 * ks.length ≤ k → td ≤ 16 → MR tx n b s k o W os ks → MS s td S → ¬ (mTT tx n k).1 = 125 → gB tx n b D N s k o os ks S (prS (mTT tx n) (N + 1) f 1 o k td (800 * b + ks.length) os.length)
  | 0, _, _, _, _, _, _, _, _, hf, _, _, _, _, _, _, _, _, _, _ => by omega
  | 1, _, _, _, _, _, _, _, _, hf, _, _, _, _, _, _, _, _, _, _ => by omega
  | g + 2, o, S, k, s, W, os, ks, td, hf, ho, hSo, hS1, hk, hos, hks, htd, a, m, n125 => by
    have ih := st_ok h0 hN g (o + 1)
    have stp : ∀ q, lB D (q + 1) s = bN (mjF (D + 12) 284 [.ref 97] (mjW0 s)) (fun hp => L_279_12 (mjF (D + 12)) q 97 hp) := fun q => by rw [lB_step a m hS1 (by omega), if_neg n125]
    have dsp := st_disp (D := D) a
    have blk := fun (F : SF) (k : Nat) (s : mjSt3) (W : List WF) (os : List Row) (ks : List Nat) (td : Nat) => blk_ok (d := D + 5) (D := D) (S := S) (o := o) (k := k) (s := s) (W := W) (os := os) (ks := ks) (td := td) (b := b) (rd := prS (mTT tx n) (N + 1) g 1 (o + 1)) F (by omega) h0 hN (fun h12 k s W os ks td hk hos hks htd a m n1 => ih (S ++ [F]) k s W os ks td (by omega) (by omega) (by rw [List.length_append, List.length_singleton]; omega) (by rw [List.length_append, List.length_singleton]; omega) hk hos hks htd a m n1) ho
    rw [prS_1]
    by_cases hty : (mTT tx n k).1 = 2 ∨ (mTT tx n k).1 = 10
    · rw [if_pos hty]
      have n123 : ¬ (mTT tx n k).1 = 123 := by rcases hty with e | e <;> rw [e] <;> decide
      have ty : tyS (mTT tx n k).1 = true := by rcases hty with e | e <;> rw [e] <;> decide
      rw [if_neg n123, if_pos ty] at dsp
      have G := m_decl (D := D) (B := 500) h0 hN (by omega) ho hk (by omega) hks htd a m
      refine gB_of hk (fun q => ?_) G (fun z hz => pDecl_b hN h0 ho hk htd hz)
      rw [stp, dsp]
      cases mjF (D + 11) 285 [.ref 97, .int (mTT tx n k).2.1] (mjW0 s) with
      | none => rfl
      | some p => obtain ⟨p1, p2⟩ := p; cases p1 <;> rfl
    rw [if_neg hty]
    have nty : ¬ tyS (mTT tx n k).1 = true := by
      simp only [tyS, decide_eq_true_eq]; exact fun q => hty (q.symm)
    by_cases h15 : (mTT tx n k).1 = 15
    · rw [if_pos h15]
      have n123 : ¬ (mTT tx n k).1 = 123 := by rw [h15]; decide
      have hkN := lt_N hN h0 hk h15 (by decide)
      rw [if_neg n123, if_neg nty, if_pos (Or.inl h15)] at dsp
      have H := m_head (D := D + 1) (B := 500) h0 hN (by omega) ho hk (by omega) hks a m (Or.inl h15)
      unfold pIf
      rw [pGrd_hd]
      cases hh : pHd (mTT tx n) (N + 1) o k (800 * b + ks.length) with
      | inl e =>
        rw [hh] at H
        obtain ⟨s1, x, e1, z1, hx, r1⟩ := H
        have R : FB (mTT tx n) b D N s k e := FB.one (fun q => by rw [stp, dsp, e1, bN_s]; rfl) hk z1 (by omega) r1
        exact R
      | inr y =>
        rw [hh] at H
        obtain ⟨o12, ⟨y1, y2, y3⟩, yN⟩ := pHd_b hN h0 ho hkN hh
        obtain ⟨s1, e1, a1, m1, r1⟩ := H
        have hd1 : hdO (mTT tx n) k = [oLine (mTT tx n) k] := if_pos h15
        rw [hd1, if_pos h15] at e1
        rw [hd1] at a1
        obtain ⟨A, hA⟩ : ∃ A, A = os ++ [oLine (mTT tx n) k] ++ y.2.2.2.1 := ⟨_, rfl⟩
        have AL : A.length = os.length + 1 + y.2.2.2.1.length := by rw [hA, List.length_append, List.length_append, List.length_singleton]
        have AL1 : (A ++ [((21 : Int32), (mTT tx n k).2.1, (0 : Int32), (0 : Int32), (0 : Int64))]).length = os.length + 1 + y.2.2.2.1.length + 1 := by rw [List.length_append, List.length_singleton, AL]
        have KL1 : (ks ++ y.2.2.1).length = ks.length + y.2.2.1.length := List.length_append
        rw [← hA] at a1
        rw [List.length_singleton, ← AL] at e1
        have Bk := blk (2, nI A.length, nI (os.length + 1)) (y.1 + 1) s1 [] _ _ td (by omega) (by rw [AL1]; omega) (by rw [KL1]; omega) htd a1 m1
        rw [AL1, KL1, ← Nat.add_assoc (800 * b)] at Bk
        show gB tx n b D N s k o os ks S (match (match pBlk (mTT tx n) (N + 1) (prS (mTT tx n) (N + 1) g 1 (o + 1)) o (y.1 + 1) td (800 * b + ks.length + y.2.2.1.length) (os.length + 1 + y.2.2.2.1.length + 1) with
            | .inl e => .inl e
            | .inr z => .inr (y, z) : (Nat × Nat) ⊕ (PZ × PB)) with
          | .inl e => .inl e
          | .inr (y, z) => _)
        rw [pBlk_in]
        cases hp : pIn (mTT tx n) (N + 1) (prS (mTT tx n) (N + 1) g 1 (o + 1)) o (y.1 + 1) td (800 * b + ks.length + y.2.2.1.length) (os.length + 1 + y.2.2.2.1.length + 1) with
        | inl e =>
          rw [hp] at Bk
          obtain ⟨t, s2, j, x, g1, g2, g3, g4, g5, g6⟩ := Bk
          have R : FB (mTT tx n) b D N s k e := ⟨s2, j + 1, x, fun q => by rw [show q + (j + 1) = (q + j) + 1 by omega, stp, dsp, e1, g1, bN_s, bN_s]; exact g2 q, by omega, g4, g5, (offS_of r1).tr g6⟩
          exact R
        | inr z =>
          rw [hp] at Bk
          obtain ⟨d1, d2, d3, d4, d5, d6, t, s2, j2, W2, g1, g2, g3, g4, g5, g6⟩ := Bk
          have stp2 : ∀ q, lB D (q + 1) s2 = bN (mjF (D + 12) 282 [.ref 97] (mjW0 s2)) (fun hp => L_279_12 (mjF (D + 12)) q 97 hp) := fun q => by rw [lB_step g4 g5 (by rw [List.length_append, List.length_singleton]; omega) (by rw [List.length_append, List.length_singleton]; omega), if_pos d1]
          have g4' : MR tx n b s2 z.1 (o + 1) W2 (A ++ (21, (mTT tx n k).2.1, 0, 0, 0) :: z.2.2.2.1) (ks ++ y.2.2.1 ++ z.2.2.1) := by
            rw [List.append_assoc A] at g4; exact g4
          have r02 : offS b s s2 := (offS_of r1).tr g6
          have two : ∀ q, lB D (q + (j2 + 1)) s = lB D q s2 := fun q => by rw [show q + (j2 + 1) = (q + j2) + 1 by omega, stp, dsp, e1, g1, bN_s, bN_s]; exact g2 q
          have zl : (z.2.2.2.1 ++ [((27 : Int32), (mTT tx n (z.1 + 1)).2.1, (0 : Int32), (0 : Int32), (0 : Int64))]).length = z.2.2.2.1.length + 1 := by rw [List.length_append, List.length_singleton]
          by_cases h16 : (mTT tx n (z.1 + 1)).1 = 16
          · have hz1 := lt_N hN h0 (show z.1 + 1 ≤ N from d3) h16 (by decide)
            obtain ⟨s3, e3, a3, m3, r3⟩ := m_end2e (D := D + 2) g4' g5 (by omega) (by omega) d1 h16
            have L3 : (A ++ ((21 : Int32), (mTT tx n k).2.1, nI (A.length + z.2.2.2.1.length + 3), (0 : Int32), (0 : Int64)) :: (z.2.2.2.1 ++ [((27 : Int32), (mTT tx n (z.1 + 1)).2.1, (0 : Int32), (0 : Int32), (0 : Int64)), (22, -1, 0, 0, 0)])).length = A.length + z.2.2.2.1.length + 3 := by
              simp only [List.length_append, List.length_cons, List.length_nil]; omega
            have K3 : (ks ++ y.2.2.1 ++ z.2.2.1).length = ks.length + y.2.2.1.length + z.2.2.1.length := by rw [List.length_append, KL1]
            have B3 := blk (3, nI (A.length + z.2.2.2.1.length + 2), -1) (z.1 + 2) s3 W2 _ _ z.2.1 (by omega) (by rw [L3]; omega) (by rw [K3]; omega) d6 a3 m3
            have eq3 : A.length + z.2.2.2.1.length + 3 = os.length + 3 + y.2.2.2.1.length + (z.2.2.2.1.length + 1) := by omega
            rw [L3, K3, ← Nat.add_assoc (800 * b), ← Nat.add_assoc (800 * b), eq3] at B3
            simp only [if_pos h16]
            show gB tx n b D N s k o os ks S (match pBlk (mTT tx n) (N + 1) (prS (mTT tx n) (N + 1) g 1 (o + 1)) o (z.1 + 1 + 1) z.2.1 (800 * b + ks.length + y.2.2.1.length + z.2.2.1.length) (os.length + 3 + y.2.2.2.1.length + (z.2.2.2.1 ++ [((27 : Int32), (mTT tx n (z.1 + 1)).2.1, (0 : Int32), (0 : Int32), (0 : Int64))]).length) with
              | .inl e => .inl e
              | .inr w => _)
            rw [pBlk_in, zl]
            cases hp3 : pIn (mTT tx n) (N + 1) (prS (mTT tx n) (N + 1) g 1 (o + 1)) o (z.1 + 1 + 1) z.2.1 (800 * b + ks.length + y.2.2.1.length + z.2.2.1.length) (os.length + 3 + y.2.2.2.1.length + (z.2.2.2.1.length + 1)) with
            | inl e =>
              rw [show z.1 + 2 = z.1 + 1 + 1 from rfl, hp3] at B3
              obtain ⟨t3, s4, j, x, i1, i2, i3, i4, i5, i6⟩ := B3
              have R : FB (mTT tx n) b D N s k e := ⟨s4, (j + 1) + (j2 + 1), x, fun q => by rw [← Nat.add_assoc, two, show q + (j + 1) = (q + j) + 1 by omega, stp2, e3, i1, bN_s, bN_s]; exact i2 q, by omega, i4, i5, (r02.tr r3).tr i6⟩
              exact R
            | inr w =>
              rw [show z.1 + 2 = z.1 + 1 + 1 from rfl, hp3] at B3
              obtain ⟨c1, c2, c3, c4, c5, c6, t3, s4, j4, W4, i1, i2, i3, i4, i5, i6⟩ := B3
              have stp4 : ∀ q, lB D (q + 1) s4 = bN (mjF (D + 12) 282 [.ref 97] (mjW0 s4)) (fun hp => L_279_12 (mjF (D + 12)) q 97 hp) := fun q => by rw [lB_step i4 i5 (by rw [List.length_append, List.length_singleton]; omega) (by rw [List.length_append, List.length_singleton]; omega), if_pos c1]
              obtain ⟨A4, hA4⟩ : ∃ A4, A4 = A ++ ((21 : Int32), (mTT tx n k).2.1, nI (A.length + z.2.2.2.1.length + 3), (0 : Int32), (0 : Int64)) :: (z.2.2.2.1 ++ [((27 : Int32), (mTT tx n (z.1 + 1)).2.1, (0 : Int32), (0 : Int32), (0 : Int64))]) := ⟨_, rfl⟩
              have AL4 : A4.length = A.length + z.2.2.2.1.length + 2 := by
                rw [hA4]; simp only [List.length_append, List.length_cons, List.length_nil]; omega
              have i4' : MR tx n b s4 w.1 (o + 1) W4 (A4 ++ (22, -1, 0, 0, 0) :: w.2.2.2.1) (ks ++ y.2.2.1 ++ z.2.2.1 ++ w.2.2.1) := by
                have q : A4 ++ (22, -1, 0, 0, 0) :: w.2.2.2.1 = A ++ ((21 : Int32), (mTT tx n k).2.1, nI (A.length + z.2.2.2.1.length + 3), (0 : Int32), (0 : Int64)) :: (z.2.2.2.1 ++ [((27 : Int32), (mTT tx n (z.1 + 1)).2.1, (0 : Int32), (0 : Int32), (0 : Int64)), (22, -1, 0, 0, 0)]) ++ w.2.2.2.1 := by
                  rw [hA4]; simp
                rw [← eq3] at i4
                rw [q]; exact i4
              rw [← AL4] at i5
              obtain ⟨s5, e5, a5, m5, r5⟩ := m_end3 (D := D + 2) i4' i5 (by omega) (by omega) c1
              refine ⟨⟨by show k < w.1 + 1; omega, by show w.1 + 1 ≤ N; omega, ?_, ?_, c6⟩, s5, (1 + j4 + 1) + (j2 + 1), W4, fun q => ?_, by show _ ≤ w.1 + 1; omega, ?_, m5, ((r02.tr r3).tr i6).tr r5⟩
              · simp only [List.length_append, List.length_cons, List.length_nil]; omega
              · simp only [List.length_append]; omega
              · rw [← Nat.add_assoc, two, show q + (1 + j4 + 1) = ((q + 1) + j4) + 1 by omega, stp2, e3, i1, bN_s, bN_s]
                show lB D (q + 1 + j4) t3 = _
                rw [i2, stp4, e5, bN_s]; rfl
              · have ka : ks ++ y.2.2.1 ++ z.2.2.1 ++ w.2.2.1 = ks ++ (y.2.2.1 ++ z.2.2.1 ++ w.2.2.1) := by simp
                rw [ka] at a5
                have ra : A4 ++ (22, -1, nI (A4.length + w.2.2.2.1.length + 2), 0, 0) :: (w.2.2.2.1 ++ [((27 : Int32), (mTT tx n (w.1 + 1)).2.1, (0 : Int32), (0 : Int32), (0 : Int64))]) = os ++ (oLine (mTT tx n) k :: (y.2.2.2.1 ++ ((21 : Int32), (mTT tx n k).2.1, nI (os.length + 3 + y.2.2.2.1.length + (z.2.2.2.1.length + 1)), (0 : Int32), (0 : Int64)) :: (z.2.2.2.1 ++ [((27 : Int32), (mTT tx n (z.1 + 1)).2.1, (0 : Int32), (0 : Int32), (0 : Int64))] ++ ((22 : Int32), (-1 : Int32), nI (os.length + 3 + y.2.2.2.1.length + (z.2.2.2.1.length + 1) + (w.2.2.2.1 ++ [((27 : Int32), (mTT tx n (w.1 + 1)).2.1, (0 : Int32), (0 : Int32), (0 : Int64))]).length), (0 : Int32), (0 : Int64)) :: (w.2.2.2.1 ++ [((27 : Int32), (mTT tx n (w.1 + 1)).2.1, (0 : Int32), (0 : Int32), (0 : Int64))])))) := by
                  rw [show (w.2.2.2.1 ++ [((27 : Int32), (mTT tx n (w.1 + 1)).2.1, (0 : Int32), (0 : Int32), (0 : Int64))]).length = w.2.2.2.1.length + 1 by rw [List.length_append, List.length_singleton], show A4.length + w.2.2.2.1.length + 2 = os.length + 3 + y.2.2.2.1.length + (z.2.2.2.1.length + 1) + (w.2.2.2.1.length + 1) by omega]
                  generalize nI (os.length + 3 + y.2.2.2.1.length + (z.2.2.2.1.length + 1) + (w.2.2.2.1.length + 1)) = g2
                  rw [hA4, show A.length + z.2.2.2.1.length + 3 = os.length + 3 + y.2.2.2.1.length + (z.2.2.2.1.length + 1) by omega]
                  generalize nI (os.length + 3 + y.2.2.2.1.length + (z.2.2.2.1.length + 1)) = g1
                  rw [hA]
                  simp
                rw [ra] at a5
                exact a5
          · simp only [if_neg h16]
            obtain ⟨s3, e3, a3, m3, r3⟩ := m_end2 (D := D + 2) g4' g5 (by omega) (by omega) d1 h16
            refine ⟨⟨by show k < z.1 + 1; omega, by show z.1 + 1 ≤ N; omega, ?_, ?_, d6⟩, s3, 1 + (j2 + 1), W2, fun q => ?_, by show _ ≤ z.1 + 1; omega, ?_, m3, r02.tr r3⟩
            · simp only [List.length_append, List.length_cons, List.length_nil]; omega
            · simp only [List.length_append]; omega
            · rw [← Nat.add_assoc, two, stp2, e3, bN_s]; rfl
            · have ka : ks ++ y.2.2.1 ++ z.2.2.1 = ks ++ (y.2.2.1 ++ z.2.2.1) := List.append_assoc _ _ _
              rw [ka] at a3
              have ra : A ++ (21, (mTT tx n k).2.1, nI (A.length + z.2.2.2.1.length + 2), 0, 0) :: (z.2.2.2.1 ++ [((27 : Int32), (mTT tx n (z.1 + 1)).2.1, (0 : Int32), (0 : Int32), (0 : Int64))]) = os ++ (oLine (mTT tx n) k :: (y.2.2.2.1 ++ ((21 : Int32), (mTT tx n k).2.1, nI (os.length + 2 + y.2.2.2.1.length + (z.2.2.2.1 ++ [((27 : Int32), (mTT tx n (z.1 + 1)).2.1, (0 : Int32), (0 : Int32), (0 : Int64))]).length), (0 : Int32), (0 : Int64)) :: (z.2.2.2.1 ++ [((27 : Int32), (mTT tx n (z.1 + 1)).2.1, (0 : Int32), (0 : Int32), (0 : Int64))]))) := by
                rw [zl, show A.length + z.2.2.2.1.length + 2 = os.length + 2 + y.2.2.2.1.length + (z.2.2.2.1.length + 1) by omega]
                generalize nI (os.length + 2 + y.2.2.2.1.length + (z.2.2.2.1.length + 1)) = g1
                rw [hA]
                simp
              rw [ra] at a3
              exact a3
    rw [if_neg h15]
    by_cases h17 : (mTT tx n k).1 = 17
    · rw [if_pos h17]
      have n123 : ¬ (mTT tx n k).1 = 123 := by rw [h17]; decide
      have hkN := lt_N hN h0 hk h17 (by decide)
      rw [if_neg n123, if_neg nty, if_pos (Or.inr h17)] at dsp
      have H := m_head (D := D + 1) (B := 500) h0 hN (by omega) ho hk (by omega) hks a m (Or.inr h17)
      unfold pWhile
      rw [pGrd_hd]
      cases hh : pHd (mTT tx n) (N + 1) o k (800 * b + ks.length) with
      | inl e =>
        rw [hh] at H
        obtain ⟨s1, x, e1, z1, hx, r1⟩ := H
        have R : FB (mTT tx n) b D N s k e := FB.one (fun q => by rw [stp, dsp, e1, bN_s]; rfl) hk z1 (by omega) r1
        exact R
      | inr y =>
        rw [hh] at H
        obtain ⟨o12, ⟨y1, y2, y3⟩, yN⟩ := pHd_b hN h0 ho hkN hh
        obtain ⟨s1, e1, a1, m1, r1⟩ := H
        have hd1 : hdO (mTT tx n) k = [oLine (mTT tx n) k, (2, (mTT tx n k).2.1, 0, 0, 0)] := if_neg h15
        rw [hd1, if_neg h15] at e1
        rw [hd1] at a1
        obtain ⟨A, hA⟩ : ∃ A, A = os ++ [oLine (mTT tx n) k, (2, (mTT tx n k).2.1, 0, 0, 0)] ++ y.2.2.2.1 := ⟨_, rfl⟩
        have l2 : [oLine (mTT tx n) k, (2, (mTT tx n k).2.1, 0, 0, 0)].length = 2 := rfl
        have AL : A.length = os.length + 2 + y.2.2.2.1.length := by rw [hA, List.length_append, List.length_append, l2]
        have AL1 : (A ++ [((21 : Int32), (mTT tx n k).2.1, (0 : Int32), (0 : Int32), (0 : Int64))]).length = os.length + 2 + y.2.2.2.1.length + 1 := by rw [List.length_append, List.length_singleton, AL]
        have KL1 : (ks ++ y.2.2.1).length = ks.length + y.2.2.1.length := List.length_append
        rw [← hA] at a1
        rw [l2, ← AL] at e1
        have Bk := blk (4, nI A.length, nI (os.length + 1)) (y.1 + 1) s1 [] _ _ td (by omega) (by rw [AL1]; omega) (by rw [KL1]; omega) htd a1 m1
        rw [AL1, KL1, ← Nat.add_assoc (800 * b)] at Bk
        show gB tx n b D N s k o os ks S (match (match pBlk (mTT tx n) (N + 1) (prS (mTT tx n) (N + 1) g 1 (o + 1)) o (y.1 + 1) td (800 * b + ks.length + y.2.2.1.length) (os.length + 2 + y.2.2.2.1.length + 1) with
            | .inl e => .inl e
            | .inr z => .inr (y, z) : (Nat × Nat) ⊕ (PZ × PB)) with
          | .inl e => .inl e
          | .inr (y, z) => _)
        rw [pBlk_in]
        cases hp : pIn (mTT tx n) (N + 1) (prS (mTT tx n) (N + 1) g 1 (o + 1)) o (y.1 + 1) td (800 * b + ks.length + y.2.2.1.length) (os.length + 2 + y.2.2.2.1.length + 1) with
        | inl e =>
          rw [hp] at Bk
          obtain ⟨t, s2, j, x, g1, g2, g3, g4, g5, g6⟩ := Bk
          have R : FB (mTT tx n) b D N s k e := ⟨s2, j + 1, x, fun q => by rw [show q + (j + 1) = (q + j) + 1 by omega, stp, dsp, e1, g1, bN_s, bN_s]; exact g2 q, by omega, g4, g5, (offS_of r1).tr g6⟩
          exact R
        | inr z =>
          rw [hp] at Bk
          obtain ⟨d1, d2, d3, d4, d5, d6, t, s2, j2, W2, g1, g2, g3, g4, g5, g6⟩ := Bk
          have stp2 : ∀ q, lB D (q + 1) s2 = bN (mjF (D + 12) 282 [.ref 97] (mjW0 s2)) (fun hp => L_279_12 (mjF (D + 12)) q 97 hp) := fun q => by rw [lB_step g4 g5 (by rw [List.length_append, List.length_singleton]; omega) (by rw [List.length_append, List.length_singleton]; omega), if_pos d1]
          have g4' : MR tx n b s2 z.1 (o + 1) W2 (A ++ (21, (mTT tx n k).2.1, 0, 0, 0) :: z.2.2.2.1) (ks ++ y.2.2.1 ++ z.2.2.1) := by
            rw [List.append_assoc A] at g4; exact g4
          have r02 : offS b s s2 := (offS_of r1).tr g6
          have two : ∀ q, lB D (q + (j2 + 1)) s = lB D q s2 := fun q => by rw [show q + (j2 + 1) = (q + j2) + 1 by omega, stp, dsp, e1, g1, bN_s, bN_s]; exact g2 q
          have zl : (z.2.2.2.1 ++ [((27 : Int32), (mTT tx n (z.1 + 1)).2.1, (0 : Int32), (0 : Int32), (0 : Int64))]).length = z.2.2.2.1.length + 1 := by rw [List.length_append, List.length_singleton]
          obtain ⟨s3, e3, a3, m3, r3⟩ := m_end4 (D := D + 2) g4' g5 (by omega) (by omega) d1
          refine ⟨⟨by show k < z.1 + 1; omega, by show z.1 + 1 ≤ N; omega, ?_, ?_, d6⟩, s3, 1 + (j2 + 1), W2, fun q => ?_, by show _ ≤ z.1 + 1; omega, ?_, m3, r02.tr r3⟩
          · simp only [List.length_append, List.length_cons, List.length_nil]; omega
          · simp only [List.length_append]; omega
          · rw [← Nat.add_assoc, two, stp2, e3, bN_s]; rfl
          · have ka : ks ++ y.2.2.1 ++ z.2.2.1 = ks ++ (y.2.2.1 ++ z.2.2.1) := List.append_assoc _ _ _
            rw [ka] at a3
            have ra : A ++ (21, (mTT tx n k).2.1, nI (A.length + z.2.2.2.1.length + 3), 0, 0) :: (z.2.2.2.1 ++ [((27 : Int32), (mTT tx n (z.1 + 1)).2.1, (0 : Int32), (0 : Int32), (0 : Int64)), (23, -1, nI (os.length + 1), 0, 0)]) = os ++ (oLine (mTT tx n) k :: (2, (mTT tx n k).2.1, 0, 0, 0) :: (y.2.2.2.1 ++ ((21 : Int32), (mTT tx n k).2.1, nI (os.length + 4 + y.2.2.2.1.length + (z.2.2.2.1 ++ [((27 : Int32), (mTT tx n (z.1 + 1)).2.1, (0 : Int32), (0 : Int32), (0 : Int64))]).length), (0 : Int32), (0 : Int64)) :: (z.2.2.2.1 ++ [((27 : Int32), (mTT tx n (z.1 + 1)).2.1, (0 : Int32), (0 : Int32), (0 : Int64))] ++ [(23, -1, nI (os.length + 1), 0, 0)]))) := by
              rw [zl, show A.length + z.2.2.2.1.length + 3 = os.length + 4 + y.2.2.2.1.length + (z.2.2.2.1.length + 1) by omega]
              generalize nI (os.length + 4 + y.2.2.2.1.length + (z.2.2.2.1.length + 1)) = g1
              generalize nI (os.length + 1) = g2
              rw [hA]
              simp
            rw [ra] at a3
            exact a3
    rw [if_neg h17]
    have n1517 : ¬ ((mTT tx n k).1 = 15 ∨ (mTT tx n k).1 = 17) := fun q => q.elim h15 h17
    by_cases h18 : (mTT tx n k).1 = 18
    · rw [if_pos h18]
      have n123 : ¬ (mTT tx n k).1 = 123 := by rw [h18]; decide
      rw [if_neg n123, if_neg nty, if_neg n1517, if_pos h18] at dsp
      have hkN := lt_N hN h0 hk h18 (by decide)
      have G := m_give (D := D + 1) (B := 500) h0 hN (by omega) ho hkN (by omega) hks a m (by rw [h18]; decide) 28
      exact gB_of hk (fun q => by rw [stp, dsp]) G (fun z hz => pGive_b hN h0 ho hkN htd hz)
    rw [if_neg h18]
    by_cases h19 : (mTT tx n k).1 = 19
    · rw [if_pos h19]
      have n123 : ¬ (mTT tx n k).1 = 123 := by rw [h19]; decide
      rw [if_neg n123, if_neg nty, if_neg n1517, if_neg h18, if_pos h19] at dsp
      have hkN := lt_N hN h0 hk h19 (by decide)
      have G := m_give (D := D + 1) (B := 500) h0 hN (by omega) ho hkN (by omega) hks a m (by rw [h19]; decide) 24
      exact gB_of hk (fun q => by rw [stp, dsp]) G (fun z hz => pGive_b hN h0 ho hkN htd hz)
    rw [if_neg h19]
    by_cases h123 : (mTT tx n k).1 = 123
    · rw [if_pos h123, prS_0, pBlk_in]
      rw [if_pos h123] at dsp
      have Bk := blk (1, -1, -1) k s W os ks td hk hos hks htd a m
      cases hp : pIn (mTT tx n) (N + 1) (prS (mTT tx n) (N + 1) g 1 (o + 1)) o k td (800 * b + ks.length) os.length with
      | inl e =>
        rw [hp] at Bk
        obtain ⟨t, s2, j, x, g1, g2, g3, g4, g5, g6⟩ := Bk
        have R : FB (mTT tx n) b D N s k e := ⟨s2, j + 1, x, fun q => by rw [show q + (j + 1) = (q + j) + 1 by omega, stp, dsp, g1, bN_s, bN_s]; exact g2 q, by omega, g4, g5, g6⟩
        exact R
      | inr z =>
        rw [hp] at Bk
        obtain ⟨d1, d2, d3, d4, d5, d6, t, s2, j2, W2, g1, g2, g3, g4, g5, g6⟩ := Bk
        have stp2 : ∀ q, lB D (q + 1) s2 = bN (mjF (D + 12) 282 [.ref 97] (mjW0 s2)) (fun hp => L_279_12 (mjF (D + 12)) q 97 hp) := fun q => by rw [lB_step g4 g5 (by rw [List.length_append, List.length_singleton]; omega) (by rw [List.length_append, List.length_singleton]; omega), if_pos d1]
        have two : ∀ q, lB D (q + (j2 + 1)) s = lB D q s2 := fun q => by rw [show q + (j2 + 1) = (q + j2) + 1 by omega, stp, dsp, g1, bN_s, bN_s]; exact g2 q
        obtain ⟨s3, e3, a3, m3, r3⟩ := m_end1 (D := D + 2) g4 g5 (by omega) (by rw [List.length_append]; omega) d1 (Or.inr rfl)
        refine ⟨⟨by show k < z.1 + 1; omega, by show z.1 + 1 ≤ N; omega, ?_, ?_, d6⟩, s3, 1 + (j2 + 1), W2, fun q => ?_, by show _ ≤ z.1 + 1; omega, ?_, m3, g6.tr r3⟩
        · simp only [List.length_append, List.length_cons, List.length_nil]; omega
        · show 4 * z.2.2.1.length ≤ z.1 + 1 - k; omega
        · rw [← Nat.add_assoc, two, stp2, e3, bN_s]; rfl
        · rw [List.append_assoc] at a3
          exact a3
    rw [if_neg h123]
    rw [if_neg h123, if_neg nty, if_neg n1517, if_neg h18, if_neg h19] at dsp
    have G := m_use (D := D) (B := 500) h0 hN (by omega) ho hk (by omega) hks a m
    refine gB_of hk (fun q => ?_) G (fun z hz => pUse_b hN h0 ho hk htd hz)
    rw [stp, dsp]
    cases mjF (D + 11) 298 [.ref 97, .int (mTT tx n k).2.1] (mjW0 s) with
    | none => rfl
    | some p => obtain ⟨p1, p2⟩ := p; cases p1 <;> rfl
end MJ91
