/-! ===== the reference reads an E so: all of it ===== -/
/-- so the reference reads, for fuel f -/
def mE (tx : Nat → Int32) (n b D N B f : Nat) : Prop := ∀ (o k : Nat) (s : mjSt3) (W : List WF) (f0 : WF) (os : List Row) (ks : List Nat), o ≤ 12 → k ≤ N → os.length + W.length ≤ B + k → 4 * ks.length ≤ k → MR tx n b s k o (W ++ [f0]) os ks →
  (6 * (12 - o) + 7 ≤ f → W.length ≤ 4 * o → ¬ f0.1 = 2 → ¬ f0.1 = 3 → gV tx n b D N s k o (W ++ [f0]) os ks (prE (mTT tx n) (N + 1) f 0 o k (800 * b + ks.length))) ∧
  (6 * (12 - o) + 6 ≤ f → W.length ≤ 4 * o + 1 → ¬ f0.1 = 2 → (¬ f0.1 = 3 ∨ lvO f0.2.1 < 2) → gP tx n b D N s k o (W ++ [f0]) os ks 2 (prE (mTT tx n) (N + 1) f 1 o k (800 * b + ks.length))) ∧
  (6 * (12 - o) + 5 ≤ f → W.length ≤ 4 * o + 2 → ¬ f0.1 = 2 → (¬ f0.1 = 3 ∨ lvO f0.2.1 < 3) → gP tx n b D N s k o (W ++ [f0]) os ks 1 (prE (mTT tx n) (N + 1) f 2 o k (800 * b + ks.length))) ∧
  (6 * (12 - o) + 4 ≤ f → W.length ≤ 4 * o + 3 → gU tx n b D N s k o (W ++ [f0]) os ks (prE (mTT tx n) (N + 1) f 3 o k (800 * b + ks.length))) ∧
  (6 * (12 - o) + 3 ≤ f → W.length ≤ 4 * o + 3 → ¬ (mTT tx n k).1 = 45 → gE tx n b D N s k o (W ++ [f0]) os ks (prE (mTT tx n) (N + 1) f 4 o k (800 * b + ks.length)) ∧ ∀ z, prE (mTT tx n) (N + 1) f 4 o k (800 * b + ks.length) = .inr z → ¬ (mTT tx n z.1).1 = 46 ∧ ¬ (mTT tx n z.1).1 = 20) ∧
  (6 * (12 - o) + 2 ≤ f → W.length ≤ 4 * o + 3 → ¬ (mTT tx n k).1 = 45 → gE tx n b D N s k o (W ++ [f0]) os ks (prE (mTT tx n) (N + 1) f 5 o k (800 * b + ks.length)))
section MJ81
variable {tx : Nat → Int32} {n b D k o N B f : Nat} {s : mjSt3} {W : List WF} {f0 : WF} {os : List Row} {ks : List Nat}
theorem mE_5 (h0 : (mTT tx n N).1 = 0) (hN : N ≤ 3000) (hB : B ≤ 1500) (ih : mE tx n b D N B f) (ho : o ≤ 12) (hk : k ≤ N) (hos : os.length + W.length ≤ B + k) (hks : 4 * ks.length ≤ k) (h : MR tx n b s k o (W ++ [f0]) os ks) (hf : 6 * (12 - o) + 2 ≤ f + 1) (hW : W.length ≤ 4 * o + 3) (h45 : ¬ (mTT tx n k).1 = 45) : gE tx n b D N s k o (W ++ [f0]) os ks (prE (mTT tx n) (N + 1) (f + 1) 5 o k (800 * b + ks.length)) := by
  have one : ∀ (s1 : mjSt3) (z : PZ), step1 (D + 8) 1 s 0 s1 → k < z.1 → MR tx n b s1 z.1 o (W ++ [f0]) (os ++ z.2.2.2.1) (ks ++ z.2.2.1) → offE b s s1 → s1.1 97 77 = z.2.1 → gE tx n b D N s k o (W ++ [f0]) os ks (.inr z) := fun s1 z e hz a r g => ⟨s1, 1, e, by omega, a, r, g⟩
  have bad : ∀ e, FZ (mTT tx n) b N (fun m => lE (D + 8) m 1 s) s k e → gE tx n b D N s k o (W ++ [f0]) os ks (.inl e) := fun e x => x
  have hmj := mjN_v
  rw [prE_5]
  unfold pAtom
  by_cases k3 : (mTT tx n k).1 = 3
  · rw [if_pos k3]
    obtain ⟨s1, e, a, r, g⟩ := a_name (D := D) h (by omega) (by omega) k3
    refine one s1 _ e (Nat.lt_succ_self k) ?_ r g
    show MR tx n b s1 (k + 1) o _ _ (ks ++ [])
    rw [List.append_nil]
    exact a
  rw [if_neg k3]
  by_cases k4 : (mTT tx n k).1 = 4
  · rw [if_pos k4]
    obtain ⟨s1, e, a, r, g⟩ := a_num (D := D) h (by omega) (by omega) k4
    refine one s1 _ e (Nat.lt_succ_self k) ?_ r g
    show MR tx n b s1 (k + 1) o _ _ (ks ++ [])
    rw [List.append_nil]
    exact a
  rw [if_neg k4]
  by_cases k11 : (mTT tx n k).1 = 11
  · rw [if_pos k11]
    obtain ⟨s1, e, a, r, g⟩ := a_null (D := D) h (by omega) (by omega) k11
    refine one s1 _ e (Nat.lt_succ_self k) ?_ r g
    show MR tx n b s1 (k + 1) o _ _ (ks ++ [])
    rw [List.append_nil]
    exact a
  rw [if_neg k11]
  by_cases k12 : (mTT tx n k).1 = 12
  · rw [if_pos k12]
    obtain ⟨s1, e, a, r, g⟩ := a_this (D := D) h (by omega) (by omega) k12
    refine one s1 _ e (Nat.lt_succ_self k) ?_ r g
    show MR tx n b s1 (k + 1) o _ _ (ks ++ [])
    rw [List.append_nil]
    exact a
  rw [if_neg k12]
  by_cases k14 : (mTT tx n k).1 = 14
  · rw [if_pos k14]
    have P := a_new (D := D) h (by omega) (by omega) (by omega) k14
    cases hd : pKind (mTT tx n) (k + 1) with
    | inl x =>
      rw [hd] at P
      obtain ⟨s1, e1, z1, r1⟩ := P
      exact bad _ (FZ.one (j := 2) e1 (by omega) hk z1 (by omega) r1)
    | inr c' =>
      rw [hd] at P
      obtain ⟨s1, e, a, r, g⟩ := P
      have hc' := pKind_len hd
      exact one s1 (c', 0, [k + 1], [(7, (mTT tx n k).2.1, nI (800 * b + ks.length), 0, 0)], []) e (by show k < c'; omega) a r g
  rw [if_neg k14]
  by_cases k40 : (mTT tx n k).1 = 40
  · rw [if_pos k40]
    have hkN : k < N := by
      have : ¬ k = N := fun q => absurd (show (0 : Int32) = 40 by rw [← k40, q, h0]) (by decide)
      omega
    obtain ⟨A1, A2⟩ := a_open (D := D) h (by omega) (Or.inl k40)
    by_cases o12 : o = 12
    · obtain ⟨s1, e1, z1, r1⟩ := A2 o12
      rw [if_pos o12]
      exact bad _ (FZ.one (j := 2) e1 (by omega) hk z1 (by omega) r1)
    · obtain ⟨s1, x, e1, a1, r1⟩ := A1 (by omega)
      rw [if_neg o12]
      rw [if_neg h45] at a1
      have L : (W ++ [f0]).length = W.length + 1 := by rw [List.length_append]; rfl
      have C := (ih (o + 1) (k + 1) s1 (W ++ [f0]) _ os ks (by omega) hkN (by rw [L]; omega) (by omega) a1).1 (by omega) (by rw [L]; omega) (fun e => absurd (show (1 : Int32) = 2 from e) (by decide)) (fun e => absurd (show (1 : Int32) = 3 from e) (by decide))
      cases hd : prE (mTT tx n) (N + 1) f 0 (o + 1) (k + 1) (800 * b + ks.length) with
      | inl e =>
        rw [hd] at C
        have C' : FZ (mTT tx n) b N (fun m => lE (D + 8) m 1 s1) s1 (k + 1) e := C
        exact bad _ (FZ.via C' (j := 1) e1 r1 (by omega) hkN)
      | inr y =>
        rw [hd] at C
        obtain ⟨b1, b2, b3⟩ : lnZ (k + 1) 0 y := prE_len f 0 _ _ _ y (by omega) hd
        have hyN := (prE_le hN h0 (show o + 1 ≤ 12 by omega) (show k + 1 ≤ N from hkN)).1 (by omega) hd
        by_cases hc : isCmp (mTT tx n y.1).1 = true
        · have n41 : ¬ (mTT tx n y.1).1 = 41 := fun e => by rw [e] at hc; exact absurd hc (by decide)
          simp only [if_neg n41]
          exact bad _ (FZ.via (C.1 hc) (j := 1) e1 r1 (by omega) hkN)
        · obtain ⟨s2, j2, q2, c1, c2, c3, c4, c5, c6⟩ := C.2 hc
          obtain ⟨q2, rfl⟩ : ∃ x, q2 = x + 1 := ⟨q2 - 1, by omega⟩
          have E := e_paren (D := D) c4 (by rw [L]; omega) (by rw [List.length_append]; omega) rfl
          by_cases h41 : (mTT tx n y.1).1 = 41
          · obtain ⟨s3, d1, d2, d3, d4⟩ := E.1 h41
            simp only [if_pos h41]
            refine ⟨s3, j2 + 1, fun m => ?_, by show j2 + 1 + k ≤ y.1 + 1; omega, ?_, r1.tr (c5.tr d3), d4⟩
            · rw [show m + (j2 + 1) = (m + j2) + 1 by omega, e1, c1, d1]
            · rw [List.append_assoc os] at d2
              exact d2
          · obtain ⟨s3, d1, d2, d3⟩ := E.2 h41
            simp only [if_neg h41]
            refine ⟨s3, j2 + 2, _, fun m => ?_, by omega, d2, by rw [List.length_append]; omega, r1.tr (c5.tr d3)⟩
            show lE (D + 8) (m + (j2 + 2)) 1 s = _
            rw [show m + (j2 + 2) = ((m + 1) + j2) + 1 by omega, e1, c1, d1]
  rw [if_neg k40]
  have hv : isVal (mTT tx n k).1 = false := by
    simp only [isVal, decide_eq_false_iff_not]
    rintro (e | e | e | e | e | e | e)
    · exact k3 e
    · exact k4 e
    · exact k11 e
    · exact k12 e
    · exact k14 e
    · exact k40 e
    · exact h45 e
  exact bad _ (FZ.one (j := 2) (a_not (D := D) h (by omega) hv) (by omega) hk (m_wz h) (by omega) (bS_off _ _))
theorem mE_4 (h0 : (mTT tx n N).1 = 0) (hN : N ≤ 3000) (hB : B ≤ 1500) (ih : mE tx n b D N B (f + 1)) (ih' : mE tx n b D N B f) (ho : o ≤ 12) (hk : k ≤ N) (hos : os.length + W.length ≤ B + k) (hks : 4 * ks.length ≤ k) (h : MR tx n b s k o (W ++ [f0]) os ks) (hf : 6 * (12 - o) + 3 ≤ f + 2) (hW : W.length ≤ 4 * o + 3) (h45 : ¬ (mTT tx n k).1 = 45) : gE tx n b D N s k o (W ++ [f0]) os ks (prE (mTT tx n) (N + 1) (f + 2) 4 o k (800 * b + ks.length)) ∧ ∀ z, prE (mTT tx n) (N + 1) (f + 2) 4 o k (800 * b + ks.length) = .inr z → ¬ (mTT tx n z.1).1 = 46 ∧ ¬ (mTT tx n z.1).1 = 20 := by
  have bad : ∀ e, FZ (mTT tx n) b N (fun m => lE (D + 8) m 1 s) s k e → gE tx n b D N s k o (W ++ [f0]) os ks (.inl e) ∧ ∀ z, (Sum.inl e : PX) = .inr z → ¬ (mTT tx n z.1).1 = 46 ∧ ¬ (mTT tx n z.1).1 = 20 := fun e x => ⟨x, fun z hz => by cases hz⟩
  rw [prE_4]
  have A := (ih o k s W f0 os ks ho hk hos hks h).2.2.2.2.2 (by omega) hW h45
  cases hd : prE (mTT tx n) (N + 1) (f + 1) 5 o k (800 * b + ks.length) with
  | inl e =>
    rw [hd] at A
    exact bad e A
  | inr z =>
    rw [hd] at A
    obtain ⟨s1, j1, a1, a2, a3, a4, a5⟩ := A
    have hz := (prE_le hN h0 ho hk).2.2.2.2.2 (by omega) hd
    have hz' : lnZ k 0 z := prE_len (f + 1) 5 _ _ _ z (by omega) hd
    have P := lp_post (D := D) (W := W) (f := f0) (o := o) (B := B) (k0 := k) (kq := 800 * b + ks.length) (rv := prE (mTT tx n) (N + 1) f 0 (o + 1)) (os0 := os) (ks0 := ks) h0 rfl (by omega) ho hos hks hB hN (fun c kq z e => prE_len f 0 _ c kq z (by omega) e) (fun oo c kq z hc e => (prE_le hN h0 (show o + 1 ≤ 12 by omega) hc).1 (by omega) e) (fun oo c kq hv => by
        obtain ⟨g, rfl⟩ : ∃ x, f = x + 6 := ⟨f - 6, by omega⟩
        exact pV_not hv) (fun oo s2 c f1 os1 ks1 g1 g2 m1 m2 m3 m4 => (ih' (o + 1) c s2 (W ++ [f0]) f1 os1 ks1 (by omega) m3 (by rw [List.length_append]; exact m2) m4 m1).1 (by omega) (by rw [List.length_append]; show W.length + 1 ≤ _; omega) g1 g2) (N + 1) z s1 hz' hz (by omega) a3 a5
    show gE tx n b D N s k o (W ++ [f0]) os ks (pPost (mTT tx n) (pCall (mTT tx n) (prE (mTT tx n) (N + 1) f 0 (o + 1)) o) (800 * b + ks.length) (N + 1) z) ∧ ∀ w, pPost (mTT tx n) (pCall (mTT tx n) (prE (mTT tx n) (N + 1) f 0 (o + 1)) o) (800 * b + ks.length) (N + 1) z = .inr w → ¬ (mTT tx n w.1).1 = 46 ∧ ¬ (mTT tx n w.1).1 = 20
    cases hp : pPost (mTT tx n) (pCall (mTT tx n) (prE (mTT tx n) (N + 1) f 0 (o + 1)) o) (800 * b + ks.length) (N + 1) z with
    | inl e =>
      rw [hp] at P
      have P' : FZ (mTT tx n) b N (fun m => lE (D + 8) m 0 s1) s1 z.1 e := P
      exact bad e (FZ.via P' a1 a4 a2 hz)
    | inr w =>
      rw [hp] at P
      obtain ⟨s5, j5, i1, i2, i3, i4, i5, i6, i7, i8⟩ := P
      refine ⟨⟨s5, j5 + j1, fun m => ?_, by omega, i6, a4.tr i7, i8⟩, fun w' e => ?_⟩
      · rw [show m + (j5 + j1) = (m + j5) + j1 by omega, a1, i1]
      · cases e
        exact ⟨i4, i5⟩
theorem mE_3 (h0 : (mTT tx n N).1 = 0) (hN : N ≤ 3000) (hB : B ≤ 1500) (ih : mE tx n b D N B f) (ho : o ≤ 12) (hk : k ≤ N) (hos : os.length + W.length ≤ B + k) (hks : 4 * ks.length ≤ k) (h : MR tx n b s k o (W ++ [f0]) os ks) (hf : 6 * (12 - o) + 4 ≤ f + 1) (hW : W.length ≤ 4 * o + 3) : gU tx n b D N s k o (W ++ [f0]) os ks (prE (mTT tx n) (N + 1) (f + 1) 3 o k (800 * b + ks.length)) := by
  have bad : ∀ e, FZ (mTT tx n) b N (fun m => lE (D + 8) m 1 s) s k e → gU tx n b D N s k o (W ++ [f0]) os ks (.inl e) := fun e x => x
  have hmj := mjN_v
  have L : (W ++ [f0]).length = W.length + 1 := by rw [List.length_append]; rfl
  rw [prE_3]
  by_cases k45 : (mTT tx n k).1 = 45
  · rw [if_pos k45]
    have hkN : k < N := by
      have : ¬ k = N := fun q => absurd (show (0 : Int32) = 45 by rw [← k45, q, h0]) (by decide)
      omega
    obtain ⟨A1, A2⟩ := a_open (D := D) h (by omega) (Or.inr k45)
    by_cases o12 : o = 12
    · obtain ⟨s1, e1, z1, r1⟩ := A2 o12
      rw [if_pos o12]
      exact bad _ (FZ.one (j := 2) e1 (by omega) hk z1 (by omega) r1)
    · obtain ⟨s1, x, e1, a1, r1⟩ := A1 (by omega)
      rw [if_neg o12]
      rw [if_pos k45] at a1
      have C := (ih (o + 1) (k + 1) s1 (W ++ [f0]) _ os ks (by omega) hkN (by rw [L]; omega) (by omega) a1).2.2.2.1 (by omega) (by rw [L]; omega)
      cases hd : prE (mTT tx n) (N + 1) f 3 (o + 1) (k + 1) (800 * b + ks.length) with
      | inl e =>
        rw [hd] at C
        have C' : FZ (mTT tx n) b N (fun m => lE (D + 8) m 1 s1) s1 (k + 1) e := C
        exact bad _ (FZ.via C' (j := 1) e1 r1 (by omega) hkN)
      | inr y =>
        rw [hd] at C
        obtain ⟨b1, b2, b3⟩ : lnZ (k + 1) 0 y := prE_len f 3 _ _ _ y (by omega) hd
        have hyN := (prE_le hN h0 (show o + 1 ≤ 12 by omega) (show k + 1 ≤ N from hkN)).2.2.2.1 (by omega) hd
        obtain ⟨s2, j2, q2, c1, c2, c3, c4, c5, c6⟩ := C
        obtain ⟨q2, rfl⟩ : ∃ x, q2 = x + 1 := ⟨q2 - 1, by omega⟩
        obtain ⟨s3, d1, d2, d3, d4⟩ := mQ_minus (D := D + 7) c4 (by rw [L]; omega) (by rw [List.length_append]; omega)
        refine ⟨s3, j2 + 1, q2, fun m => ?_, by show j2 + 1 + k ≤ y.1 + 1; omega, by omega, ?_, r1.tr (c5.tr d3), d4⟩
        · rw [show m + (j2 + 1) = (m + j2) + 1 by omega, e1, c1, d1]
        · rw [List.append_assoc os] at d2
          exact d2
  · rw [if_neg k45]
    obtain ⟨A, A'⟩ := (ih o k s W f0 os ks ho hk hos hks h).2.2.2.2.1 (by omega) hW k45
    cases hd : prE (mTT tx n) (N + 1) f 4 o k (800 * b + ks.length) with
    | inl e =>
      rw [hd] at A
      exact bad e A
    | inr z =>
      rw [hd] at A
      obtain ⟨s1, j1, a1, a2, a3, a4, a5⟩ := A
      obtain ⟨n46, n20⟩ := A' z hd
      refine ⟨s1, j1 + 1, mjN, fun m => ?_, by omega, by omega, a3, a4, a5⟩
      rw [show m + (j1 + 1) = (m + 1) + j1 by omega, a1]
      exact lE_mid (D := D + 7) a3 (by omega) n46 n20
theorem mE_2 (h0 : (mTT tx n N).1 = 0) (hN : N ≤ 3000) (hB : B ≤ 1500) (ih : mE tx n b D N B f) (ho : o ≤ 12) (hk : k ≤ N) (hos : os.length + W.length ≤ B + k) (hks : 4 * ks.length ≤ k) (h : MR tx n b s k o (W ++ [f0]) os ks) (hf : 6 * (12 - o) + 5 ≤ f + 1) (hW : W.length ≤ 4 * o + 2) (hf2 : ¬ f0.1 = 2) (hf3 : ¬ f0.1 = 3 ∨ lvO f0.2.1 < 3) : gP tx n b D N s k o (W ++ [f0]) os ks 1 (prE (mTT tx n) (N + 1) (f + 1) 2 o k (800 * b + ks.length)) := by
  have bad : ∀ e, FZ (mTT tx n) b N (fun m => lE (D + 8) m 1 s) s k e → gP tx n b D N s k o (W ++ [f0]) os ks 1 (.inl e) := fun e x => x
  have hmj := mjN_v
  rw [prE_2]
  have A := (ih o k s W f0 os ks ho hk hos hks h).2.2.2.1 (by omega) (by omega)
  cases hd : prE (mTT tx n) (N + 1) f 3 o k (800 * b + ks.length) with
  | inl e =>
    rw [hd] at A
    exact bad e A
  | inr z =>
    rw [hd] at A
    obtain ⟨s1, j1, q1, a1, a2, aq, a3, a4, a5⟩ := A
    obtain ⟨q1, rfl⟩ : ∃ x, q1 = x + 1 := ⟨q1 - 1, by omega⟩
    have hz := (prE_le hN h0 ho hk).2.2.2.1 (by omega) hd
    have hz' : lnZ k 0 z := prE_len f 3 _ _ _ z (by omega) hd
    have P := lp_two (D := D) (W := W) (f := f0) (sg := isPro) (lv := 3) (y := 1) (B := B) (k0 := k) (o := o) (kq := 800 * b + ks.length) (rd := prE (mTT tx n) (N + 1) f 3 o) (os0 := os) (ks0 := ks) (Or.inl ⟨rfl, rfl⟩) (fun K g => lvl_pro g) (fun K _ g => (lvl_le K).2.1 g) rfl (by omega) h0 (by decide) hf3 hos hks hB hN (fun c kq z e => prE_len f 3 _ c kq z (by omega) e) (fun c kq z hc e => (prE_le hN h0 ho hc).2.2.2.1 (by omega) e) (fun s2 c f1 os1 ks1 g1 g2 m1 m2 m3 m4 => by
        have C := (ih o c s2 (W ++ [f0]) f1 os1 ks1 ho m3 (by rw [List.length_append]; exact m2) m4 m1).2.2.2.1 (by omega) (by rw [List.length_append]; show W.length + 1 ≤ _; omega)
        cases hd2 : prE (mTT tx n) (N + 1) f 3 o c (800 * b + ks1.length) with
        | inl e => rw [hd2] at C; exact C
        | inr w =>
          rw [hd2] at C
          obtain ⟨s3, j3, q3, c1, c2, c3, c4, c5, c6⟩ := C
          obtain ⟨q3, rfl⟩ : ∃ x, q3 = x + 1 := ⟨q3 - 1, by omega⟩
          refine ⟨s3, j3, mjN, fun m => ?_, c2, by omega, (lvl_le _).1, c4, c5, c6⟩
          rw [c1]
          exact mQ_1 (D := D + 7) c4 (by rw [List.length_append]; show W.length + 1 < 64; omega) g1) (N + 1) z s1 mjN hz' hz (by omega) a3 a5 (by omega) (lvl_le _).1
    have run : ∀ m, lE (D + 8) (m + j1) 1 s = m1Q (D + 8) m mjN (lvl (mTT tx n z.1).1) s1 := fun m => by
      rw [a1]
      exact mQ_1 (D := D + 7) a3 (by omega) hf2
    show gP tx n b D N s k o (W ++ [f0]) os ks 1 (pLoop (mTT tx n) isPro (prE (mTT tx n) (N + 1) f 3 o) (800 * b + ks.length) (N + 1) z)
    cases hp : pLoop (mTT tx n) isPro (prE (mTT tx n) (N + 1) f 3 o) (800 * b + ks.length) (N + 1) z with
    | inl e =>
      rw [hp] at P
      have P' : FZ (mTT tx n) b N (fun m => m1Q (D + 8) m mjN (lvl (mTT tx n z.1).1) s1) s1 (z.1 + 1) e := P
      exact bad e (FZ.via2 P' run a4 a2 (by omega))
    | inr w =>
      rw [hp] at P
      obtain ⟨s5, j5, q5, i1, i2, i3, i4, i5, i6, i7⟩ := P
      refine ⟨s5, j5 + j1, q5, fun m => ?_, by omega, i3, i4, i5, a4.tr i6, i7⟩
      rw [show m + (j5 + j1) = (m + j5) + j1 by omega, run, i1]
theorem mE_1 (h0 : (mTT tx n N).1 = 0) (hN : N ≤ 3000) (hB : B ≤ 1500) (ih : mE tx n b D N B f) (ho : o ≤ 12) (hk : k ≤ N) (hos : os.length + W.length ≤ B + k) (hks : 4 * ks.length ≤ k) (h : MR tx n b s k o (W ++ [f0]) os ks) (hf : 6 * (12 - o) + 6 ≤ f + 1) (hW : W.length ≤ 4 * o + 1) (hf2 : ¬ f0.1 = 2) (hf3 : ¬ f0.1 = 3 ∨ lvO f0.2.1 < 2) : gP tx n b D N s k o (W ++ [f0]) os ks 2 (prE (mTT tx n) (N + 1) (f + 1) 1 o k (800 * b + ks.length)) := by
  have bad : ∀ e, FZ (mTT tx n) b N (fun m => lE (D + 8) m 1 s) s k e → gP tx n b D N s k o (W ++ [f0]) os ks 2 (.inl e) := fun e x => x
  have hmj := mjN_v
  rw [prE_1]
  have A := (ih o k s W f0 os ks ho hk hos hks h).2.2.1 (by omega) (by omega) hf2 (hf3.imp_right (fun x => by omega))
  cases hd : prE (mTT tx n) (N + 1) f 2 o k (800 * b + ks.length) with
  | inl e =>
    rw [hd] at A
    exact bad e A
  | inr z =>
    rw [hd] at A
    obtain ⟨s1, j1, q1, a1, a2, aq, al, a3, a4, a5⟩ := A
    have hz := (prE_le hN h0 ho hk).2.2.1 (by omega) hd
    have hz' : lnZ k 0 z := prE_len f 2 _ _ _ z (by omega) hd
    have P := lp_two (D := D) (W := W) (f := f0) (sg := isSum) (lv := 2) (y := 2) (B := B) (k0 := k) (o := o) (kq := 800 * b + ks.length) (rd := prE (mTT tx n) (N + 1) f 2 o) (os0 := os) (ks0 := ks) (Or.inr ⟨rfl, rfl⟩) (fun K g => lvl_sum g) (fun K hl g => (lvl_le K).2.2.1 (fun p => by rw [(lvl_pro p).1] at hl; omega) g) rfl (by omega) h0 (by decide) hf3 hos hks hB hN (fun c kq z e => prE_len f 2 _ c kq z (by omega) e) (fun c kq z hc e => (prE_le hN h0 ho hc).2.2.1 (by omega) e) (fun s2 c f1 os1 ks1 g1 g2 m1 m2 m3 m4 => by
        have C := (ih o c s2 (W ++ [f0]) f1 os1 ks1 ho m3 (by rw [List.length_append]; exact m2) m4 m1).2.2.1 (by omega) (by rw [List.length_append]; show W.length + 1 ≤ _; omega) g1 (Or.inr (by omega))
        cases hd2 : prE (mTT tx n) (N + 1) f 2 o c (800 * b + ks1.length) with
        | inl e => rw [hd2] at C; exact C
        | inr w => rw [hd2] at C; exact C) (N + 1) z s1 q1 hz' hz (by omega) a3 a5 (by omega) al
    show gP tx n b D N s k o (W ++ [f0]) os ks 2 (pLoop (mTT tx n) isSum (prE (mTT tx n) (N + 1) f 2 o) (800 * b + ks.length) (N + 1) z)
    cases hp : pLoop (mTT tx n) isSum (prE (mTT tx n) (N + 1) f 2 o) (800 * b + ks.length) (N + 1) z with
    | inl e =>
      rw [hp] at P
      have P' : FZ (mTT tx n) b N (fun m => m1Q (D + 8) m q1 (lvl (mTT tx n z.1).1) s1) s1 (z.1 + 1) e := P
      exact bad e (FZ.via2 P' a1 a4 a2 (by omega))
    | inr w =>
      rw [hp] at P
      obtain ⟨s5, j5, q5, i1, i2, i3, i4, i5, i6, i7⟩ := P
      refine ⟨s5, j5 + j1, q5, fun m => ?_, by omega, i3, i4, i5, a4.tr i6, i7⟩
      rw [show m + (j5 + j1) = (m + j5) + j1 by omega, a1, i1]
theorem mE_0 (h0 : (mTT tx n N).1 = 0) (hN : N ≤ 3000) (hB : B ≤ 1500) (ih : mE tx n b D N B f) (ho : o ≤ 12) (hk : k ≤ N) (hos : os.length + W.length ≤ B + k) (hks : 4 * ks.length ≤ k) (h : MR tx n b s k o (W ++ [f0]) os ks) (hf : 6 * (12 - o) + 7 ≤ f + 1) (hW : W.length ≤ 4 * o) (hf2 : ¬ f0.1 = 2) (hf3 : ¬ f0.1 = 3) : gV tx n b D N s k o (W ++ [f0]) os ks (prE (mTT tx n) (N + 1) (f + 1) 0 o k (800 * b + ks.length)) := by
  have bad : ∀ e, FZ (mTT tx n) b N (fun m => lE (D + 8) m 1 s) s k e → gV tx n b D N s k o (W ++ [f0]) os ks (.inl e) := fun e x => x
  have hmj := mjN_v
  have L : (W ++ [f0]).length = W.length + 1 := by rw [List.length_append]; rfl
  rw [prE_0]
  have A := (ih o k s W f0 os ks ho hk hos hks h).2.1 (by omega) (by omega) hf2 (Or.inl hf3)
  cases hd : prE (mTT tx n) (N + 1) f 1 o k (800 * b + ks.length) with
  | inl e =>
    rw [hd] at A
    exact bad e A
  | inr z =>
    rw [hd] at A
    obtain ⟨s1, j1, q1, a1, a2, aq, al, a3, a4, a5⟩ := A
    obtain ⟨q1, rfl⟩ : ∃ x, q1 = x + 1 := ⟨q1 - 1, by omega⟩
    have hz := (prE_le hN h0 ho hk).2.1 (by omega) hd
    obtain ⟨z1, z2, z3⟩ : lnZ k 0 z := prE_len f 1 _ _ _ z (by omega) hd
    have zl : ∀ K, lvl K ≤ 1 → ¬ isCmp K = true → lvl K = 0 := fun K hl g => (lvl_le K).2.2.2 (fun p => by rw [(lvl_pro p).1] at hl; omega) (fun p => by rw [(lvl_sum p).1] at hl; omega) g
    by_cases hc : isCmp (mTT tx n z.1).1 = true
    · have hzN : z.1 < N := by
        have : ¬ z.1 = N := fun q => by rw [q, h0] at hc; exact absurd hc (by decide)
        omega
      have gl := lvl_cmp hc
      simp only [if_pos hc]
      obtain ⟨s2, x, e2, b2, r2, g2⟩ := m1Q_push (D := D + 4) a3 (by omega) gl.1 (by omega) (Or.inl hf3)
      have L1 : (os ++ z.2.2.2.1).length = os.length + z.2.2.2.1.length := List.length_append
      have L2 : (ks ++ z.2.2.1).length = ks.length + z.2.2.1.length := List.length_append
      have C := (ih o (z.1 + 1) s2 (W ++ [f0]) _ (os ++ z.2.2.2.1) (ks ++ z.2.2.1) ho hzN (by rw [L, L1]; omega) (by rw [L2]; omega) b2).2.1 (by omega) (by rw [L]; omega) (fun e => absurd (show (3 : Int32) = 2 from e) (by decide)) (Or.inr (by rw [gl.2]; omega))
      rw [L2, ← Nat.add_assoc] at C
      have run : ∀ m, lE (D + 8) (m + j1) 1 s = lE (D + 8) m 1 s2 := fun m => by rw [a1, gl.1]; exact e2 m q1
      cases hd2 : prE (mTT tx n) (N + 1) f 1 o (z.1 + 1) (800 * b + ks.length + z.2.2.1.length) with
      | inl e =>
        rw [hd2] at C
        have C' : FZ (mTT tx n) b N (fun m => lE (D + 8) m 1 s2) s2 (z.1 + 1) e := C
        exact bad e (FZ.via C' run (a4.tr r2) a2 hzN)
      | inr y =>
        rw [hd2] at C
        obtain ⟨y1, y2, y3⟩ : lnZ (z.1 + 1) 0 y := prE_len f 1 _ _ _ y (by omega) hd2
        have hyN := (prE_le hN h0 ho (show z.1 + 1 ≤ N from hzN)).2.1 (by omega) hd2
        obtain ⟨s3, j3, q3, c1, c2, c3, c4, c5, c6, c7⟩ := C
        obtain ⟨q3, rfl⟩ : ∃ x, q3 = x + 1 := ⟨q3 - 1, by omega⟩
        have run2 : ∀ m, lE (D + 8) (m + (j3 + j1)) 1 s = m1Q (D + 8) m (q3 + 1) (lvl (mTT tx n y.1).1) s3 := fun m => by
          rw [show m + (j3 + j1) = (m + j3) + j1 by omega, run, c1]
        refine ⟨fun hc2 => ?_, fun hc2 => ?_⟩
        · have hc2' : isCmp (mTT tx n y.1).1 = true := hc2
          have gl2 := lvl_cmp hc2'
          refine ⟨_, j3 + j1 + 1, _, fun m => ?_, by omega, m_wz c5, by rw [List.length_append, L1]; omega, a4.tr (r2.tr (c6.tr (bS_off _ _)))⟩
          show lE (D + 8) (m + (j3 + j1 + 1)) 1 s = _
          rw [show m + (j3 + j1 + 1) = (m + 1) + (j3 + j1) by omega, run2, gl2.1]
          exact m1Q_cmp (D := D + 6) c5 (by rw [L]; omega) gl.2
        · have l0 := zl _ c4 hc2
          obtain ⟨s4, d1, d2, d3, d4⟩ := m1Q_two (D := D + 7) (l := 0) c5 (by rw [L]; omega) (by rw [List.length_append, L1]; omega) (by omega) (by rw [gl.2]; omega) (by omega)
          refine ⟨s4, j3 + j1, q3, fun m => ?_, by show j3 + j1 + k ≤ y.1 + 1; omega, by omega, ?_, a4.tr (r2.tr (c6.tr d3)), d4⟩
          · rw [run2, l0]
            exact d1 m q3
          · have e4 : os ++ z.2.2.2.1 ++ y.2.2.2.1 ++ [((9 : Int32), (mTT tx n z.1).2.1, nbr (mTT tx n z.1).1 0, (0 : Int32), (0 : Int64))] = os ++ (z.2.2.2.1 ++ y.2.2.2.1 ++ [oTwo (mTT tx n) z.1]) := by
              simp only [List.append_assoc]; rfl
            rw [e4, List.append_assoc ks] at d2
            exact d2
    · simp only [if_neg hc]
      refine ⟨fun g => absurd g hc, fun _ => ⟨s1, j1, q1 + 1, fun m => ?_, a2, by omega, a3, a4, a5⟩⟩
      rw [a1, zl _ al hc]
theorem mE_ok (h0 : (mTT tx n N).1 = 0) (hN : N ≤ 3000) (hB : B ≤ 1500) (f : Nat) : mE tx n b D N B f := by
  induction f using Nat.strongRecOn with
  | ind f ih =>
    intro o k s W f0 os ks ho hk hos hks h
    obtain rfl | ⟨f, rfl⟩ : f = 0 ∨ ∃ x, f = x + 1 := by
      cases f with
      | zero => exact Or.inl rfl
      | succ f => exact Or.inr ⟨f, rfl⟩
    · refine ⟨fun h => ?_, fun h => ?_, fun h => ?_, fun h => ?_, fun h => ?_, fun h => ?_⟩ <;> omega
    · have i1 := ih f (by omega)
      refine ⟨fun g1 g2 g3 g4 => mE_0 h0 hN hB i1 ho hk hos hks h g1 g2 g3 g4, fun g1 g2 g3 g4 => mE_1 h0 hN hB i1 ho hk hos hks h g1 g2 g3 g4, fun g1 g2 g3 g4 => mE_2 h0 hN hB i1 ho hk hos hks h g1 g2 g3 g4, fun g1 g2 => mE_3 h0 hN hB i1 ho hk hos hks h g1 g2, fun g1 g2 g3 => ?_, fun g1 g2 g3 => mE_5 h0 hN hB i1 ho hk hos hks h g1 g2 g3⟩
      obtain ⟨f, rfl⟩ : ∃ x, f = x + 1 := ⟨f - 1, by omega⟩
      exact mE_4 h0 hN hB i1 (ih f (by omega)) ho hk hos hks h g1 g2 g3
end MJ81
