/-! ===== the reference reads an E so: calls, POSTS ===== -/
section MJ80
variable {tx : Nat → Int32} {n b D k o N : Nat} {s : mjSt3} {W : List WF} {f : WF} {os : List Row} {ks : List Nat}
/-- behind a whole E -/
def gV (tx : Nat → Int32) (n b D N : Nat) (s : mjSt3) (k o : Nat) (W : List WF) (os : List Row) (ks : List Nat) (r : PX) : Prop := match r with
  | .inl e => FZ (mTT tx n) b N (fun m => lE (D + 8) m 1 s) s k e
  | .inr z => (isCmp (mTT tx n z.1).1 = true → FZ (mTT tx n) b N (fun m => lE (D + 8) m 1 s) s k (F2 (mTT tx n) z.1)) ∧ (¬ isCmp (mTT tx n z.1).1 = true → ∃ s' j q, (∀ m, lE (D + 8) (m + j) 1 s = m1Q (D + 8) m q 0 s') ∧ j + k ≤ z.1 + 1 ∧ mjN ≤ q + 3 ∧ MR tx n b s' z.1 o W (os ++ z.2.2.2.1) (ks ++ z.2.2.1) ∧ offE b s s' ∧ s'.1 97 77 = z.2.1)
theorem mjN_v : mjN = 100000000 := rfl
/-- ARGUMENTS, at the first TOKEN of number i -/
theorem lp_args {B kq k0 a : Nat} {pl : Int32} {nm : Int64} {rv : Nat → Nat → PX} {os0 : List Row} {ks0 : List Nat} (h0 : (mTT tx n N).1 = 0) (hkq : kq = 800 * b + ks0.length) (hW : W.length ≤ 60) (hos : os0.length + W.length + 1 ≤ B + k0) (hks : 4 * ks0.length ≤ k0) (hB : B ≤ 1500) (hN : N ≤ 3000) (ha : os0[a]? = some (11, pl, 0, 0, nm))
    (hlen : ∀ c kq z, rv c kq = .inr z → lnZ c 0 z) (hle : ∀ c kq z, c ≤ N → rv c kq = .inr z → z.1 ≤ N) (hnot : ∀ c kq, isVal (mTT tx n c).1 = false → rv c kq = .inl (F2 (mTT tx n) c))
    (hr : ∀ (s1 : mjSt3) (c : Nat) (f1 : WF) (os1 : List Row) (ks1 : List Nat), ¬ f1.1 = 2 → ¬ f1.1 = 3 → MR tx n b s1 c (o + 1) (W ++ [f1]) os1 ks1 → os1.length + W.length ≤ B + c → c ≤ N → 4 * ks1.length ≤ c → gV tx n b D N s1 c (o + 1) (W ++ [f1]) os1 ks1 (rv c (800 * b + ks1.length))) :
    ∀ (kf i : Nat) (z : PZ) (s : mjSt3), kf + i = 7 → i < 6 → (k0 ≤ z.1 ∧ z.2.2.2.1.length ≤ z.1 - k0 ∧ 4 * z.2.2.1.length ≤ z.1 - k0) → z.1 ≤ N → isVal (mTT tx n z.1).1 = true → MR tx n b s z.1 (o + 1) (W ++ [(4, nI a, pl, nI (i + 1), (mTT tx n z.1).2.1)]) (os0 ++ z.2.2.2.1) (ks0 ++ z.2.2.1) → match pArgs (mTT tx n) rv kq kf i z with
      | .inl e => FZ (mTT tx n) b N (fun m => lE (D + 8) m 1 s) s z.1 e
      | .inr y => ∃ s' j, (∀ m, lE (D + 8) (m + j) 1 s = lE (D + 8) m 0 s') ∧ j + z.1 ≤ y.2.1 ∧ MR tx n b s' y.2.1 o W ((os0 ++ y.2.2.2.2.1).set a (11, pl, 0, nI y.1, nm) ++ [(13, pl, nI y.1, 0, nm)]) (ks0 ++ y.2.2.2.1) ∧ offE b s s' ∧ s'.1 97 77 = 3 := by
  intro kf
  induction kf with
  | zero => intro i z s hi h6; omega
  | succ kf ih =>
    intro i z s hi h6 hz hzN hv h
    have hmj := mjN_v
    obtain ⟨z1, z2, z3⟩ := hz
    have al := (List.getElem?_eq_some_iff.mp ha).1
    have L1 : (os0 ++ z.2.2.2.1).length = os0.length + z.2.2.2.1.length := List.length_append
    have L2 : (ks0 ++ z.2.2.1).length = ks0.length + z.2.2.1.length := List.length_append
    unfold pArgs
    rw [if_neg (show ¬ i = 6 by omega)]
    have C := hr s z.1 (4, nI a, pl, nI (i + 1), (mTT tx n z.1).2.1) (os0 ++ z.2.2.2.1) (ks0 ++ z.2.2.1) (fun e => absurd (show (4 : Int32) = 2 from e) (by decide)) (fun e => absurd (show (4 : Int32) = 3 from e) (by decide)) h (by rw [L1]; omega) hzN (by rw [L2]; omega)
    rw [L2, ← Nat.add_assoc, ← hkq] at C
    cases hd : rv z.1 (kq + z.2.2.1.length) with
    | inl e =>
      rw [hd] at C
      exact C
    | inr w =>
      rw [hd] at C
      obtain ⟨b1, b2, b3⟩ := hlen _ _ _ hd
      have hw := hle _ _ _ hzN hd
      have lt : ∀ c : Int32, (mTT tx n w.1).1 = c → ¬ c = 0 → w.1 < N := by
        intro c e e0
        have : ¬ w.1 = N := fun q => e0 (by rw [← e, q, h0])
        omega
      by_cases h44 : (mTT tx n w.1).1 = 44
      · have nc : ¬ isCmp (mTT tx n w.1).1 = true := by rw [h44]; decide
        have wl := lt 44 h44 (by decide)
        obtain ⟨s2, j2, q2, c1, c2, c3, c4, c5, c6⟩ := C.2 nc
        obtain ⟨q2, rfl⟩ : ∃ x, q2 = x + 1 := ⟨q2 - 1, by omega⟩
        have E := (e_call (D := D) c4 (by omega) (by rw [List.length_append, L1]; omega) h6 (by rw [List.append_assoc, List.getElem?_append_left al]; exact ha)).1 h44
        simp only [if_pos h44]
        by_cases hv2 : isVal (mTT tx n (w.1 + 1)).1 = true
        · by_cases i6 : i + 1 = 6
          · obtain ⟨s3, d1, d2, d3⟩ := E.2.2 hv2 i6
            have e6 : pArgs (mTT tx n) rv kq kf (i + 1) (w.1 + 1, 0, z.2.2.1 ++ w.2.2.1, z.2.2.2.1 ++ w.2.2.2.1 ++ [(12, (mTT tx n z.1).2.1, nI i, 0, 0)], z.2.2.2.2 ++ w.2.2.2.2) = .inl (3, w.1 + 1) := by
              obtain ⟨kf, rfl⟩ : ∃ x, kf = x + 1 := ⟨kf - 1, by omega⟩
              unfold pArgs
              rw [if_pos i6, if_pos hv2]
            rw [e6]
            refine ⟨s3, j2 + 1, _, fun m => ?_, by omega, d2, by rw [List.length_append, L1]; omega, c5.tr d3⟩
            show lE (D + 8) (m + (j2 + 1)) 1 s = _
            rw [show m + (j2 + 1) = (m + 1) + j2 by omega, c1, d1]
          · obtain ⟨s3, d1, d2, d3⟩ := E.1 hv2 (by omega)
            have e4 : os0 ++ z.2.2.2.1 ++ w.2.2.2.1 ++ [((12 : Int32), (mTT tx n z.1).2.1, nI i, (0 : Int32), (0 : Int64))] = os0 ++ (z.2.2.2.1 ++ w.2.2.2.1 ++ [(12, (mTT tx n z.1).2.1, nI i, 0, 0)]) := by simp only [List.append_assoc]
            rw [e4, List.append_assoc ks0] at d2
            have I := ih (i + 1) (w.1 + 1, 0, z.2.2.1 ++ w.2.2.1, z.2.2.2.1 ++ w.2.2.2.1 ++ [(12, (mTT tx n z.1).2.1, nI i, 0, 0)], z.2.2.2.2 ++ w.2.2.2.2) s3 (by omega) (by omega) ⟨by show k0 ≤ w.1 + 1; omega, by simp only [List.length_append, List.length_singleton]; omega, by simp only [List.length_append]; omega⟩ wl hv2 d2
            have run : ∀ m, lE (D + 8) (m + j2) 1 s = lE (D + 8) m 1 s3 := fun m => by rw [c1, d1]
            cases hp : pArgs (mTT tx n) rv kq kf (i + 1) (w.1 + 1, 0, z.2.2.1 ++ w.2.2.1, z.2.2.2.1 ++ w.2.2.2.1 ++ [(12, (mTT tx n z.1).2.1, nI i, 0, 0)], z.2.2.2.2 ++ w.2.2.2.2) with
            | inl e =>
              rw [hp] at I
              exact FZ.via I run (c5.tr d3) (by show j2 + z.1 ≤ w.1 + 1; omega) wl
            | inr y =>
              rw [hp] at I
              obtain ⟨s5, j5, i1, i2, i3, i4, i5⟩ := I
              have i2' : j5 + (w.1 + 1) ≤ y.2.1 := i2
              refine ⟨s5, j5 + j2, fun m => ?_, by omega, i3, c5.tr (d3.tr i4), i5⟩
              rw [show m + (j5 + j2) = (m + j5) + j2 by omega, run, i1]
        · have hv2' : isVal (mTT tx n (w.1 + 1)).1 = false := by simpa using hv2
          obtain ⟨s3, d1, d2, d3⟩ := E.2.1 hv2'
          have e6 : pArgs (mTT tx n) rv kq kf (i + 1) (w.1 + 1, 0, z.2.2.1 ++ w.2.2.1, z.2.2.2.1 ++ w.2.2.2.1 ++ [(12, (mTT tx n z.1).2.1, nI i, 0, 0)], z.2.2.2.2 ++ w.2.2.2.2) = .inl (F2 (mTT tx n) (w.1 + 1)) := by
            obtain ⟨kf, rfl⟩ : ∃ x, kf = x + 1 := ⟨kf - 1, by omega⟩
            unfold pArgs
            by_cases i6 : i + 1 = 6
            · rw [if_pos i6, if_neg hv2]
            · rw [if_neg i6, hnot _ _ hv2']
          rw [e6]
          refine ⟨s3, j2 + 1, _, fun m => ?_, by omega, d2, by rw [List.length_append, L1]; omega, c5.tr d3⟩
          show lE (D + 8) (m + (j2 + 1)) 1 s = _
          rw [show m + (j2 + 1) = (m + 1) + j2 by omega, c1, d1]
      · simp only [if_neg h44]
        by_cases h41 : (mTT tx n w.1).1 = 41
        · have nc : ¬ isCmp (mTT tx n w.1).1 = true := by rw [h41]; decide
          obtain ⟨s2, j2, q2, c1, c2, c3, c4, c5, c6⟩ := C.2 nc
          obtain ⟨q2, rfl⟩ : ∃ x, q2 = x + 1 := ⟨q2 - 1, by omega⟩
          obtain ⟨s3, d1, d2, d3, d4⟩ := (e_call (D := D) c4 (by omega) (by rw [List.length_append, L1]; omega) h6 (by rw [List.append_assoc, List.getElem?_append_left al]; exact ha)).2.1 h41
          have e4 : os0 ++ z.2.2.2.1 ++ w.2.2.2.1 ++ [((12 : Int32), (mTT tx n z.1).2.1, nI i, (0 : Int32), (0 : Int64))] = os0 ++ (z.2.2.2.1 ++ w.2.2.2.1 ++ [(12, (mTT tx n z.1).2.1, nI i, 0, 0)]) := by simp only [List.append_assoc]
          rw [e4, List.append_assoc ks0] at d2
          simp only [if_pos h41]
          refine ⟨s3, j2, fun m => ?_, by show j2 + z.1 ≤ w.1 + 1; omega, d2, c5.tr d3, d4⟩
          rw [c1, d1]
        · simp only [if_neg h41]
          by_cases hc : isCmp (mTT tx n w.1).1 = true
          · exact C.1 hc
          · obtain ⟨s2, j2, q2, c1, c2, c3, c4, c5, c6⟩ := C.2 hc
            obtain ⟨q2, rfl⟩ : ∃ x, q2 = x + 1 := ⟨q2 - 1, by omega⟩
            obtain ⟨s3, d1, d2, d3⟩ := (e_call (D := D) c4 (by omega) (by rw [List.length_append, L1]; omega) h6 (by rw [List.append_assoc, List.getElem?_append_left al]; exact ha)).2.2 h44 h41
            refine ⟨s3, j2 + 1, _, fun m => ?_, by omega, d2, by rw [List.length_append, L1]; omega, c5.tr d3⟩
            show lE (D + 8) (m + (j2 + 1)) 1 s = _
            rw [show m + (j2 + 1) = (m + 1) + j2 by omega, c1, d1]
theorem pArgs_le {T : TT} {rv : Nat → Nat → PX} {kq N : Nat} (h0 : (T N).1 = 0) (hle : ∀ c kq z, c ≤ N → rv c kq = .inr z → z.1 ≤ N) : ∀ (f k : Nat) (z : PZ) (y : Nat × PZ), z.1 ≤ N → pArgs T rv kq f k z = .inr y → y.2.1 ≤ N
  | 0, k, z, y, hz, h => by cases h
  | f + 1, k, z, y, hz, h => by
    unfold pArgs at h
    by_cases g : k = 6
    · rw [if_pos g] at h; cases h
    · rw [if_neg g] at h
      cases hd : rv z.1 (kq + z.2.2.1.length) with
      | inl e => rw [hd] at h; cases h
      | inr w =>
        rw [hd] at h
        have hw := hle _ _ _ hz hd
        have lt : ∀ c : Int32, (T w.1).1 = c → ¬ c = 0 → w.1 + 1 ≤ N := by
          intro c e e0
          have : ¬ w.1 = N := fun q => e0 (by rw [← e, q, h0])
          omega
        by_cases g2 : (T w.1).1 = 44
        · simp only [if_pos g2] at h
          exact pArgs_le h0 hle f (k + 1) _ y (lt 44 g2 (by decide)) h
        · simp only [if_neg g2] at h
          by_cases g3 : (T w.1).1 = 41
          · simp only [if_pos g3] at h
            cases h
            exact lt 41 g3 (by decide)
          · simp only [if_neg g3] at h; cases h
/-- what stands behind an ATOM -/
theorem lp_post {B kq k0 : Nat} {rv : Nat → Nat → PX} {os0 : List Row} {ks0 : List Nat} (h0 : (mTT tx n N).1 = 0) (hkq : kq = 800 * b + ks0.length) (hW : W.length ≤ 58) (ho : o ≤ 12) (hos : os0.length + W.length ≤ B + k0) (hks : 4 * ks0.length ≤ k0) (hB : B ≤ 1500) (hN : N ≤ 3000)
    (hlen : ∀ c kq z, rv c kq = .inr z → lnZ c 0 z) (hle : o < 12 → ∀ c kq z, c ≤ N → rv c kq = .inr z → z.1 ≤ N) (hnot : o < 12 → ∀ c kq, isVal (mTT tx n c).1 = false → rv c kq = .inl (F2 (mTT tx n) c))
    (hr : o < 12 → ∀ (s1 : mjSt3) (c : Nat) (f1 : WF) (os1 : List Row) (ks1 : List Nat), ¬ f1.1 = 2 → ¬ f1.1 = 3 → MR tx n b s1 c (o + 1) (W ++ [f] ++ [f1]) os1 ks1 → os1.length + (W.length + 1) ≤ B + c → c ≤ N → 4 * ks1.length ≤ c → gV tx n b D N s1 c (o + 1) (W ++ [f] ++ [f1]) os1 ks1 (rv c (800 * b + ks1.length))) :
    ∀ (kf : Nat) (z : PZ) (s : mjSt3), lnZ k0 0 z → z.1 ≤ N → N < z.1 + kf → MR tx n b s z.1 o (W ++ [f]) (os0 ++ z.2.2.2.1) (ks0 ++ z.2.2.1) → s.1 97 77 = z.2.1 → match pPost (mTT tx n) (pCall (mTT tx n) rv o) kq kf z with
      | .inl e => FZ (mTT tx n) b N (fun m => lE (D + 8) m 0 s) s z.1 e
      | .inr w => ∃ s' j, (∀ m, lE (D + 8) (m + j) 0 s = lE (D + 8) m 0 s') ∧ j + z.1 ≤ w.1 ∧ w.1 ≤ N ∧ ¬ (mTT tx n w.1).1 = 46 ∧ ¬ (mTT tx n w.1).1 = 20 ∧ MR tx n b s' w.1 o (W ++ [f]) (os0 ++ w.2.2.2.1) (ks0 ++ w.2.2.1) ∧ offE b s s' ∧ s'.1 97 77 = w.2.1 := by
  intro kf
  induction kf with
  | zero => intro z s _ hz hN'; omega
  | succ kf ih =>
    intro z s hln hz hN' h hsh
    obtain ⟨z1, z2, z3⟩ := hln
    have lt : ∀ (x : Nat) (c : Int32), x ≤ N → (mTT tx n x).1 = c → ¬ c = 0 → x < N := by
      intro x c hx e e0
      have : ¬ x = N := fun q => e0 (by rw [← e, q, h0])
      omega
    have L1 : (os0 ++ z.2.2.2.1).length = os0.length + z.2.2.2.1.length := List.length_append
    have L2 : (ks0 ++ z.2.2.1).length = ks0.length + z.2.2.1.length := List.length_append
    have eK : kq + z.2.2.1.length = 800 * b + (ks0 ++ z.2.2.1).length := by rw [L2, hkq, Nat.add_assoc]
    unfold pPost
    by_cases h20 : (mTT tx n z.1).1 = 20
    · have hz1 := lt z.1 20 hz h20 (by decide)
      rw [if_pos h20]
      have P := p_as (D := D) h (by omega) (by rw [L1]; omega) (by rw [L2]; omega) h20
      cases hd : pKind (mTT tx n) (z.1 + 1) with
      | inl e =>
        rw [hd] at P
        obtain ⟨s1, e1, y1, r1⟩ := P
        exact FZ.one (j := 2) e1 (by omega) hz y1 (by rw [L1]; omega) r1
      | inr c' =>
        rw [hd] at P
        obtain ⟨s1, e1, a1, r1, g1⟩ := P
        have hc' := pKind_len hd
        have hcN : c' ≤ N := by
          have u := x_kind (d := 0) (p := 0) (o := 0) (v := 0) (ag := fun _ => 0) (sTH_ok (T := mTT tx n) hN h0) (c := z.1 + 1) hz1
          rw [hd] at u
          exact u.1
        rw [← eK, List.append_assoc os0, List.append_assoc ks0] at a1
        have I := ih (c', 0, z.2.2.1 ++ [z.1 + 1], z.2.2.2.1 ++ [(14, (mTT tx n z.1).2.1, nI (kq + z.2.2.1.length), 0, 0)], z.2.2.2.2) s1 ⟨by show k0 < c'; omega, by simp only [List.length_append, List.length_singleton]; omega, by simp only [List.length_append, List.length_singleton]; omega⟩ hcN (by show N < c' + kf; omega) a1 g1
        show match pPost (mTT tx n) (pCall (mTT tx n) rv o) kq kf (c', 0, z.2.2.1 ++ [z.1 + 1], z.2.2.2.1 ++ [(14, (mTT tx n z.1).2.1, nI (kq + z.2.2.1.length), 0, 0)], z.2.2.2.2) with
          | .inl e => _
          | .inr w => _
        cases hp : pPost (mTT tx n) (pCall (mTT tx n) rv o) kq kf (c', 0, z.2.2.1 ++ [z.1 + 1], z.2.2.2.1 ++ [(14, (mTT tx n z.1).2.1, nI (kq + z.2.2.1.length), 0, 0)], z.2.2.2.2) with
        | inl e =>
          rw [hp] at I
          exact FZ.via I (j := 1) e1 r1 (by show 1 + z.1 ≤ c'; omega) hcN
        | inr w =>
          rw [hp] at I
          obtain ⟨s5, j5, i1, i2, i3, i4, i5, i6, i7, i8⟩ := I
          have i2' : j5 + c' ≤ w.1 := i2
          refine ⟨s5, j5 + 1, fun m => ?_, by omega, i3, i4, i5, i6, r1.tr i7, i8⟩
          rw [show m + (j5 + 1) = (m + j5) + 1 by omega, e1, i1]
    · rw [if_neg h20]
      by_cases h46 : (mTT tx n z.1).1 = 46
      · have hz1 := lt z.1 46 hz h46 (by decide)
        rw [if_pos h46]
        obtain ⟨P1, P2, P3⟩ := p_dot (D := D) h (by omega) (by rw [L1]; omega) h46
        by_cases h3 : (mTT tx n (z.1 + 1)).1 = 3
        · have hz2 := lt (z.1 + 1) 3 (by omega) h3 (by decide)
          rw [if_pos h3]
          by_cases h40 : (mTT tx n (z.1 + 2)).1 = 40
          · have hz3 := lt (z.1 + 2) 40 (by omega) h40 (by decide)
            rw [if_pos h40]
            obtain ⟨Q1, Q2, Q3, Q4⟩ := P3 h3 h40
            have go : ∀ (y : PZ) (s1 : mjSt3) (j : Nat), lnZ (z.1 + 2) 1 y → y.1 ≤ N → (∀ m, lE (D + 8) (m + j) 0 s = lE (D + 8) m 0 s1) → j + z.1 ≤ y.1 → MR tx n b s1 y.1 o (W ++ [f]) (os0 ++ z.2.2.2.1 ++ y.2.2.2.1) (ks0 ++ z.2.2.1 ++ y.2.2.1) → offE b s s1 → s1.1 97 77 = 3 → match pPost (mTT tx n) (pCall (mTT tx n) rv o) kq kf (y.1, 3, z.2.2.1 ++ y.2.2.1, z.2.2.2.1 ++ y.2.2.2.1, z.2.2.2.2 ++ y.2.2.2.2) with
                | .inl e => FZ (mTT tx n) b N (fun m => lE (D + 8) m 0 s) s z.1 e
                | .inr w => ∃ s' j, (∀ m, lE (D + 8) (m + j) 0 s = lE (D + 8) m 0 s') ∧ j + z.1 ≤ w.1 ∧ w.1 ≤ N ∧ ¬ (mTT tx n w.1).1 = 46 ∧ ¬ (mTT tx n w.1).1 = 20 ∧ MR tx n b s' w.1 o (W ++ [f]) (os0 ++ w.2.2.2.1) (ks0 ++ w.2.2.1) ∧ offE b s s' ∧ s'.1 97 77 = w.2.1 := by
              intro y s1 j ly hy run hj a1 r1 g1
              obtain ⟨y1, y2, y3⟩ := ly
              rw [List.append_assoc os0, List.append_assoc ks0] at a1
              have I := ih (y.1, 3, z.2.2.1 ++ y.2.2.1, z.2.2.2.1 ++ y.2.2.2.1, z.2.2.2.2 ++ y.2.2.2.2) s1 ⟨by show k0 < y.1; omega, by simp only [List.length_append]; omega, by simp only [List.length_append]; omega⟩ hy (by show N < y.1 + kf; omega) a1 g1
              cases hp : pPost (mTT tx n) (pCall (mTT tx n) rv o) kq kf (y.1, 3, z.2.2.1 ++ y.2.2.1, z.2.2.2.1 ++ y.2.2.2.1, z.2.2.2.2 ++ y.2.2.2.2) with
              | inl e =>
                rw [hp] at I
                exact FZ.via I run r1 (by show j + z.1 ≤ y.1; omega) hy
              | inr w =>
                rw [hp] at I
                obtain ⟨s5, j5, i1, i2, i3, i4, i5, i6, i7, i8⟩ := I
                have i2' : j5 + y.1 ≤ w.1 := i2
                refine ⟨s5, j5 + j, fun m => ?_, by omega, i3, i4, i5, i6, r1.tr i7, i8⟩
                rw [show m + (j5 + j) = (m + j5) + j by omega, run, i1]
            unfold pCall
            by_cases o12 : o = 12
            · obtain ⟨s1, e1, y1, r1⟩ := Q1 o12
              rw [if_pos o12]
              exact FZ.one (j := 2) e1 (by omega) hz y1 (by rw [L1]; omega) r1
            · have oo : o < 12 := by omega
              rw [if_neg o12]
              by_cases h41 : (mTT tx n (z.1 + 2 + 1)).1 = 41
              · have hz4 := lt (z.1 + 3) 41 (by omega) h41 (by decide)
                obtain ⟨s1, e1, a1, r1, g1⟩ := Q2 oo h41
                rw [if_pos h41]
                exact go (z.1 + 2 + 2, 3, [], [oAsk (mTT tx n) (z.1 + 2) 0, oCall (mTT tx n) (z.1 + 2) 0], [(z.1 + 2, 0)]) s1 1 ⟨by show z.1 + 2 < z.1 + 2 + 2; omega, by show 2 ≤ _; omega, by show 4 * 0 ≤ _; omega⟩ (by show z.1 + 4 ≤ N; omega) e1 (by show 1 + z.1 ≤ z.1 + 4; omega) (by
                  show MR tx n b s1 (z.1 + 4) o (W ++ [f]) _ (ks0 ++ z.2.2.1 ++ [])
                  rw [List.append_nil]
                  exact a1) r1 g1
              · rw [if_neg h41]
                by_cases hv : isVal (mTT tx n (z.1 + 3)).1 = true
                · obtain ⟨s1, e1, a1, r1⟩ := Q3 oo h41 hv
                  have hW1 : (W ++ [f]).length = W.length + 1 := by rw [List.length_append]; rfl
                  have R := lp_args (D := D) (W := W ++ [f]) (o := o) (B := B) (k0 := z.1 + 3) (a := (os0 ++ z.2.2.2.1).length) (pl := (mTT tx n (z.1 + 1)).2.1) (nm := (mTT tx n (z.1 + 1)).2.2.1) (rv := rv) (os0 := os0 ++ z.2.2.2.1 ++ [(11, (mTT tx n (z.1 + 1)).2.1, 0, 0, (mTT tx n (z.1 + 1)).2.2.1)]) (ks0 := ks0 ++ z.2.2.1) (kq := kq + z.2.2.1.length) h0 eK (by rw [hW1]; omega) (by rw [List.length_append, L1, hW1]; show os0.length + z.2.2.2.1.length + 1 + (W.length + 1) + 1 ≤ _; omega) (by rw [L2]; omega) hB hN (by rw [List.getElem?_append_right (Nat.le_refl _), Nat.sub_self]; rfl) hlen (hle oo) (hnot oo) (fun s2 c f1 os1 ks1 g1 g2 m1 m2 m3 m4 => hr oo s2 c f1 os1 ks1 g1 g2 m1 (by rw [hW1] at m2; exact m2) m3 m4) 7 0 (z.1 + 2 + 1, 0, [], [], []) s1 (by omega) (by omega) ⟨by show z.1 + 3 ≤ z.1 + 3; omega, by show 0 ≤ _; omega, by show 4 * 0 ≤ _; omega⟩ hz3 hv (by
                    rw [List.append_nil, List.append_nil]
                    exact a1)
                  show match (match (match pArgs (mTT tx n) rv (kq + z.2.2.1.length) 7 0 (z.1 + 2 + 1, 0, [], [], []) with
                      | .inl e => .inl e
                      | .inr y => .inr (y.2.1, 3, y.2.2.2.1, oAsk (mTT tx n) (z.1 + 2) y.1 :: (y.2.2.2.2.1 ++ [oCall (mTT tx n) (z.1 + 2) y.1]), y.2.2.2.2.2 ++ [(z.1 + 2, y.1)]) : PX) with
                    | .inl e => .inl e
                    | .inr y => pPost (mTT tx n) (pCall (mTT tx n) rv o) kq kf (y.1, 3, z.2.2.1 ++ y.2.2.1, z.2.2.2.1 ++ y.2.2.2.1, z.2.2.2.2 ++ y.2.2.2.2) : PX) with
                    | .inl e => _
                    | .inr w => _
                  cases hA : pArgs (mTT tx n) rv (kq + z.2.2.1.length) 7 0 (z.1 + 2 + 1, 0, [], [], []) with
                  | inl e =>
                    rw [hA] at R
                    exact FZ.via R (j := 1) e1 r1 (by show 1 + z.1 ≤ z.1 + 3; omega) hz3
                  | inr y =>
                    rw [hA] at R
                    obtain ⟨s2, j2, i1, i2, i3, i4, i5⟩ := R
                    have i2' : j2 + (z.1 + 3) ≤ y.2.1 := i2
                    have ly := pArgs_len (c := z.1 + 3) hlen 7 0 (z.1 + 2 + 1, 0, [], [], []) y ⟨Nat.le_refl _, by show 0 ≤ _; omega, by show 4 * 0 ≤ _; omega⟩ hA
                    obtain ⟨l1, l2, l3⟩ := ly
                    have hyN : y.2.1 ≤ N := pArgs_le h0 (hle oo) 7 0 (z.1 + 2 + 1, 0, [], [], []) y hz3 hA
                    refine go (y.2.1, 3, y.2.2.2.1, oAsk (mTT tx n) (z.1 + 2) y.1 :: (y.2.2.2.2.1 ++ [oCall (mTT tx n) (z.1 + 2) y.1]), y.2.2.2.2.2 ++ [(z.1 + 2, y.1)]) s2 (j2 + 1) ⟨by show z.1 + 2 < y.2.1; omega, by simp only [List.length_cons, List.length_append, List.length_nil]; omega, by show 4 * y.2.2.2.1.length ≤ y.2.1 - (z.1 + 2); omega⟩ hyN (fun m => ?_) (by show j2 + 1 + z.1 ≤ y.2.1; omega) ?_ (r1.tr i4) i5
                    · rw [show m + (j2 + 1) = (m + j2) + 1 by omega, e1, i1]
                    · have es : (os0 ++ z.2.2.2.1 ++ [((11 : Int32), (mTT tx n (z.1 + 1)).2.1, (0 : Int32), (0 : Int32), (mTT tx n (z.1 + 1)).2.2.1)] ++ y.2.2.2.2.1).set (os0 ++ z.2.2.2.1).length (11, (mTT tx n (z.1 + 1)).2.1, 0, nI y.1, (mTT tx n (z.1 + 1)).2.2.1) ++ [(13, (mTT tx n (z.1 + 1)).2.1, nI y.1, 0, (mTT tx n (z.1 + 1)).2.2.1)] = os0 ++ z.2.2.2.1 ++ (oAsk (mTT tx n) (z.1 + 2) y.1 :: (y.2.2.2.2.1 ++ [oCall (mTT tx n) (z.1 + 2) y.1])) := by
                        rw [List.append_assoc (os0 ++ z.2.2.2.1), List.set_append_right _ _ (Nat.le_refl _), Nat.sub_self, List.append_assoc (os0 ++ z.2.2.2.1)]
                        rfl
                      rw [es] at i3
                      exact i3
                · have hv' : isVal (mTT tx n (z.1 + 3)).1 = false := by simpa using hv
                  obtain ⟨s1, e1, y1, r1⟩ := Q4 oo h41 hv'
                  have eA : pArgs (mTT tx n) rv (kq + z.2.2.1.length) 7 0 (z.1 + 2 + 1, 0, [], [], []) = .inl (F2 (mTT tx n) (z.1 + 3)) := by
                    unfold pArgs
                    rw [if_neg (by decide), hnot oo (z.1 + 3) _ hv']
                  rw [eA]
                  exact FZ.one (j := 2) e1 (by omega) hz y1 (by rw [L1]; omega) r1
          · rw [if_neg h40]
            obtain ⟨s1, e1, a1, r1, g1⟩ := P2 h3 h40
            rw [List.append_assoc os0] at a1
            have I := ih (z.1 + 2, 2, z.2.2.1, z.2.2.2.1 ++ [(10, (mTT tx n (z.1 + 1)).2.1, 0, 0, (mTT tx n (z.1 + 1)).2.2.1)], z.2.2.2.2) s1 ⟨by show k0 < z.1 + 2; omega, by simp only [List.length_append, List.length_singleton]; omega, by show 4 * z.2.2.1.length ≤ z.1 + 2 - k0; omega⟩ (by show z.1 + 2 ≤ N; omega) (by show N < z.1 + 2 + kf; omega) a1 g1
            cases hp : pPost (mTT tx n) (pCall (mTT tx n) rv o) kq kf (z.1 + 2, 2, z.2.2.1, z.2.2.2.1 ++ [(10, (mTT tx n (z.1 + 1)).2.1, 0, 0, (mTT tx n (z.1 + 1)).2.2.1)], z.2.2.2.2) with
            | inl e =>
              rw [hp] at I
              exact FZ.via I (j := 1) e1 r1 (by show 1 + z.1 ≤ z.1 + 2; omega) (by show z.1 + 2 ≤ N; omega)
            | inr w =>
              rw [hp] at I
              obtain ⟨s5, j5, i1, i2, i3, i4, i5, i6, i7, i8⟩ := I
              have i2' : j5 + (z.1 + 2) ≤ w.1 := i2
              refine ⟨s5, j5 + 1, fun m => ?_, by omega, i3, i4, i5, i6, r1.tr i7, i8⟩
              rw [show m + (j5 + 1) = (m + j5) + 1 by omega, e1, i1]
        · rw [if_neg h3]
          obtain ⟨s1, e1, y1, r1⟩ := P1 h3
          exact FZ.one (j := 2) e1 (by omega) hz y1 (by rw [L1]; omega) r1
      · rw [if_neg h46]
        exact ⟨s, 0, fun m => rfl, by omega, hz, h46, h20, h, offG.rf, hsh⟩
end MJ80
