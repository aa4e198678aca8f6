/-! ===== the reference: a CLASS ===== -/
def RC (T : TT) (b : Nat) (s : mjSt3) (ks : List Nat) (C fm : Nat) (E : CD) : Prop := RH T b s ks C fm E.1 ∧ s.1 108 C = nI E.2.length ∧ ∀ j md, E.2[j]? = some md → RM T s (400 * b + (fm + j)) C md
noncomputable def lM (D m C : Nat) (s : mjSt3) : mjU := L_267_371 (mjF (D + 14)) m 97 (nI C) (mjW0 s)
section MJ99
variable {tx : Nat → Int32} {n b D k o N C ci fm : Nat} {s s' : mjSt3} {W : List WF} {os : List Row} {ks : List Nat}
theorem offCl_Mm {M : Nat} (h : offMm b M C s s') (h1 : 400 * b + fm ≤ M) (h2 : M < 400 * b + 400) : offCl b C fm s s' := offG.mono h (fun x y q => by
  rcases q with q | q | q | q | q | q
  · exact Or.inl q
  · unfold chCl; omega
  · unfold chCl; omega
  · unfold chCl; omega
  · unfold chCl; omega
  · unfold chCl; omega) (fun x y q => by
  rcases q with q | q | q
  · exact Or.inl q
  · unfold chClL; omega
  · unfold chClL; omega)
/-- another MEMBER's rows stay -/
theorem RM.off {T : TT} {M M' C' : Nat} {md : MD} (h : RM T s M' C' md) (r : offMm b M C s s') (ne : ¬ M' = M) : RM T s' M' C' md := by
  obtain ⟨⟨p1, p2, p3, p4⟩, p5, ⟨p6, p7⟩, p8, p9, p10⟩ := h
  have q : ∀ x, 124 ≤ x → x ≤ 131 → s'.1 x M' = s.1 x M' := fun x e e' => r.1 x M' (by unfold chMm chS chE; omega)
  refine ⟨⟨by rw [q 124 (by omega) (by omega), p1], by rw [q 126 (by omega) (by omega), p2], by rw [q 127 (by omega) (by omega), p3], by rw [r.2.1 132 M' (by unfold chMmL chEL; omega), p4]⟩, by rw [q 125 (by omega) (by omega), p5], ⟨by rw [q 128 (by omega) (by omega), p6], fun j p hp => ?_⟩, by rw [q 129 (by omega) (by omega), p8], by rw [q 131 (by omega) (by omega), p9], p10⟩
  have hj := (List.getElem?_eq_some_iff.mp hp).1
  rw [r.1 133 _ (by unfold chMm chS chE; omega), r.1 134 _ (by unfold chMm chS chE; omega), r.2.1 135 _ (by unfold chMmL chEL; omega)]
  exact p7 j p hp
/-- MEMBERS -/
theorem mms_ok (h0 : (mTT tx n N).1 = 0) (hN : N ≤ 3000) (hC : C < 32) (hfm : fm + 24 ≤ 384) {os0 : List Row} {ks0 : List Nat} : ∀ (f : Nat) (z : PM) (s : mjSt3) (W : List WF), f + z.2.1.length = 25 → z.2.1.length ≤ 24 → z.1 ≤ N → 6 * (os0 ++ z.2.2.2.1).length ≤ 7 * z.1 → 4 * (ks0 ++ z.2.2.1).length ≤ z.1 → MR tx n b s z.1 1 W (os0 ++ z.2.2.2.1) (ks0 ++ z.2.2.1) → (∀ j md, z.2.1[j]? = some md → RM (mTT tx n) s (400 * b + (fm + j)) C md) → s.1 108 C = nI z.2.1.length → s.1 120 b = nI (fm + z.2.1.length) → match pMems (mTT tx n) (N + 1) (800 * b + ks0.length) os0.length f z with
    | .inl e => ∃ s' j x, (∀ q, lM D (q + j) C s = some (none, mjW0 s')) ∧ j ≤ f + 2 ∧ MZ (mTT tx n) b s' e x ∧ x ≤ 4720 ∧ offCl b C fm s s'
    | .inr y => ¬ tyS (mTT tx n y.1).1 = true ∧ z.1 ≤ y.1 ∧ y.1 ≤ N ∧ y.2.1.length ≤ 24 ∧ 6 * y.2.2.2.1.length ≤ 6 * z.2.2.2.1.length + 7 * (y.1 - z.1) ∧ 4 * y.2.2.1.length ≤ 4 * z.2.2.1.length + (y.1 - z.1) ∧ ∃ s' j W', (∀ q, lM D (q + j) C s = lM D q C s') ∧ j ≤ f + 2 ∧ MR tx n b s' y.1 1 W' (os0 ++ y.2.2.2.1) (ks0 ++ y.2.2.1) ∧ (∀ j md, y.2.1[j]? = some md → RM (mTT tx n) s' (400 * b + (fm + j)) C md) ∧ s'.1 108 C = nI y.2.1.length ∧ s'.1 120 b = nI (fm + y.2.1.length) ∧ (∀ x j, x = 100 ∨ (101 ≤ x ∧ x ≤ 107) ∨ x = 112 ∨ x = 115 ∨ x = 116 → s'.1 x j = s.1 x j) ∧ (∀ x j, x = 101 ∨ x = 111 ∨ x = 113 ∨ x = 114 → s'.2.1 x j = s.2.1 x j) ∧ offCl b C fm s s'
  | 0, z, s, W, hf, hl, _, _, _, _, _, _, _ => by omega
  | f + 1, z, s, W, hf, hl, hz, hos, hks, a, rm, h108, h120 => by
    have hb := a.2.1.1
    unfold pMems
    by_cases ty : tyS (mTT tx n z.1).1 = true
    · rw [if_pos ty]
      have n125 : ¬ (mTT tx n z.1).1 = 125 := fun e => by rw [e] at ty; exact absurd ty (by decide)
      have G := m_mem (D := D) (C := C) (kk := z.2.1.length) (mm := fm + z.2.1.length) h0 hN hC (by omega) hl hz hos hks a ty h108 h120
      rw [List.length_append, List.length_append, ← Nat.add_assoc] at G
      have pre : ∀ q, lM D (q + 1) C s = bN (mjF (D + 14) 275 [.ref 97, .int (nI C)] (mjW0 s)) (fun hp4 => L_267_371 (mjF (D + 14)) q 97 (nI C) hp4) := by
        intro q
        unfold lM
        rw [L267m_S]
        unfold b_267_371
        rw [xg_97_61, a.2.1.2.1, if_pos rfl, xV_97, v_sign a.at (c := 125) (by decide), bI_s, i01, if_neg n125, xV_97]
      cases hm : pMem (mTT tx n) (N + 1) z.2.1.length z.1 (800 * b + ks0.length + z.2.2.1.length) (os0.length + z.2.2.2.1.length) with
      | inl e =>
        rw [hm] at G
        obtain ⟨s1, x, e1, z1, hx, r1⟩ := G
        refine ⟨s1, 2, x, fun q => ?_, by omega, z1, hx, offCl_Mm r1 (by omega) (by omega)⟩
        rw [show q + 2 = (q + 1) + 1 by omega, pre, e1, bN_s, L267m_S]
        unfold b_267_371
        rw [xg_97_61, if_neg z1.n0]
        unfold b_267_395
        rw [xg_97_61, if_neg z1.n0]
      | inr r =>
        rw [hm] at G
        obtain ⟨g1, g2, g3, g4, g5, s1, W1, e1, a1, rm1, x1, x2, r1⟩ := G
        rw [List.append_assoc, List.append_assoc] at a1
        rw [List.length_append] at hos hks
        have pl : (z.2.1 ++ [r.2.1]).length = z.2.1.length + 1 := by rw [List.length_append, List.length_singleton]
        have rm' : ∀ j md, (z.2.1 ++ [r.2.1])[j]? = some md → RM (mTT tx n) s1 (400 * b + (fm + j)) C md := by
          intro j md hj
          by_cases e : j = z.2.1.length
          · subst e
            rw [List.getElem?_append_right (Nat.le_refl _), Nat.sub_self] at hj
            have em : r.2.1 = md := by simpa using hj
            subst em
            exact rm1
          · have hj' : j < z.2.1.length := by
              have := (List.getElem?_eq_some_iff.mp hj).1
              omega
            rw [List.getElem?_append_left hj'] at hj
            exact (rm j md hj).off r1 (by omega)
        have I := mms_ok h0 hN hC hfm f (r.1, z.2.1 ++ [r.2.1], z.2.2.1 ++ r.2.2.1, z.2.2.2.1 ++ r.2.2.2.1, z.2.2.2.2 ++ r.2.2.2.2) s1 W1 (by show f + (z.2.1 ++ [r.2.1]).length = 25; omega) (by show (z.2.1 ++ [r.2.1]).length ≤ 24; omega) g2 (by show 6 * (os0 ++ (z.2.2.2.1 ++ r.2.2.2.1)).length ≤ 7 * r.1; rw [List.length_append, List.length_append]; omega) (by show 4 * (ks0 ++ (z.2.2.1 ++ r.2.2.1)).length ≤ r.1; rw [List.length_append, List.length_append]; omega) a1 rm' (by rw [x1]; show _ = nI (z.2.1 ++ [r.2.1]).length; rw [pl]) (by rw [x2]; show _ = nI (fm + (z.2.1 ++ [r.2.1]).length); rw [pl]; rfl)
        have r1c : offCl b C fm s s1 := offCl_Mm r1 (by omega) (by omega)
        have step : ∀ q, lM D (q + 1) C s = lM D q C s1 := fun q => by rw [pre, e1, bN_s]; rfl
        show match pMems (mTT tx n) (N + 1) (800 * b + ks0.length) os0.length f (r.1, z.2.1 ++ [r.2.1], z.2.2.1 ++ r.2.2.1, z.2.2.2.1 ++ r.2.2.2.1, z.2.2.2.2 ++ r.2.2.2.2) with
          | .inl e => _
          | .inr y => _
        cases hp : pMems (mTT tx n) (N + 1) (800 * b + ks0.length) os0.length f (r.1, z.2.1 ++ [r.2.1], z.2.2.1 ++ r.2.2.1, z.2.2.2.1 ++ r.2.2.2.1, z.2.2.2.2 ++ r.2.2.2.2) with
        | inl e =>
          rw [hp] at I
          obtain ⟨s2, j, x, i1, i2, i3, i4, i5⟩ := I
          exact ⟨s2, j + 1, x, fun q => by rw [← Nat.add_assoc, step]; exact i1 q, by omega, i3, i4, r1c.tr i5⟩
        | inr y =>
          rw [hp] at I
          obtain ⟨i1, i2, i3, i4, i5, i6, s2, j, W2, j1, j2, j3, j4, j5, j6, j7, j8, j9⟩ := I
          have i2' : r.1 ≤ y.1 := i2
          have i5' : 6 * y.2.2.2.1.length ≤ 6 * (z.2.2.2.1 ++ r.2.2.2.1).length + 7 * (y.1 - r.1) := i5
          have i6' : 4 * y.2.2.1.length ≤ 4 * (z.2.2.1 ++ r.2.2.1).length + (y.1 - r.1) := i6
          rw [List.length_append] at i5' i6'
          exact ⟨i1, by omega, i3, i4, by omega, by omega, s2, j + 1, W2, fun q => by rw [← Nat.add_assoc, step]; exact j1 q, by omega, j3, j4, j5, j6, fun x i e => by rw [j7 x i e, r1.1 x i (by unfold chMm chS chE; omega)], fun x i e => by rw [j8 x i e, r1.2.1 x i (by unfold chMmL chEL; omega)], r1c.tr j9⟩
    · rw [if_neg ty]
      exact ⟨ty, Nat.le_refl _, hz, hl, by omega, by omega, s, 0, W, fun q => rfl, by omega, a, rm, h108, h120, fun _ _ _ => rfl, fun _ _ _ => rfl, offG.rf⟩
/-- readClass -/
theorem m_class (h0 : (mTT tx n N).1 = 0) (hN : N ≤ 3000) (hci : ci ≤ 16) (hfm : fm ≤ 24 * ci) (hk : k ≤ N) (hos : 6 * os.length ≤ 7 * k) (hks : 4 * ks.length ≤ k) (h : MR tx n b s k 0 W os ks) (e5 : (mTT tx n k).1 = 5) (h100 : s.1 100 b = nI ci) (h120 : s.1 120 b = nI fm) : match pClass (mTT tx n) (N + 1) ci k (800 * b + ks.length) os.length with
    | .inl e => ∃ s' x, mjF (D + 15) 267 [.ref 97] (mjW0 s) = some (none, mjW0 s') ∧ MZ (mTT tx n) b s' e x ∧ x ≤ 4720 ∧ offCl b (16 * b + ci) fm s s'
    | .inr r => k < r.1 ∧ r.1 ≤ N ∧ 6 * r.2.2.2.1.length ≤ 7 * (r.1 - k) ∧ 4 * r.2.2.1.length ≤ r.1 - k ∧ ci < 16 ∧ r.2.1.2.length ≤ 24 ∧ ∃ s' W', mjF (D + 15) 267 [.ref 97] (mjW0 s) = some (none, mjW0 s') ∧ MR tx n b s' r.1 0 W' (os ++ r.2.2.2.1) (ks ++ r.2.2.1) ∧ RC (mTT tx n) b s' (ks ++ r.2.2.1) (16 * b + ci) fm r.2.1 ∧ s'.1 100 b = nI (ci + 1) ∧ s'.1 120 b = nI (fm + r.2.1.2.length) ∧ offCl b (16 * b + ci) fm s s' := by
  have hmj := mjN_v
  have hb := h.2.1.1
  have G := m_clh (D := D) h0 hN hci (show fm ≤ 384 by omega) hk hos hks h e5 h100 h120
  unfold pClass
  cases hh : pHead (mTT tx n) ci k with
  | inl e =>
    rw [hh] at G
    exact G
  | inr hd =>
    rw [hh] at G
    obtain ⟨g1, g2, g3, g4, s1, e1, a1, rh, x100, x120, x108, r1⟩ := G
    obtain ⟨C, hCe⟩ : ∃ C, C = 16 * b + ci := ⟨_, rfl⟩
    rw [← hCe] at e1 rh x108 r1 ⊢
    have hC : C < 32 := by omega
    have KL : (ks ++ hdK hd.2).length = ks.length + (hdK hd.2).length := List.length_append
    have I := mms_ok (D := D) (os0 := os) (ks0 := ks ++ hdK hd.2) h0 hN hC (show fm + 24 ≤ 384 by omega) 25 (hd.1, [], [], [], []) s1 W rfl (by show 0 ≤ 24; omega) g1 (by show 6 * (os ++ []).length ≤ 7 * hd.1; rw [List.append_nil]; omega) (by show 4 * (ks ++ hdK hd.2 ++ []).length ≤ hd.1; rw [List.append_nil, KL]; omega) (by show MR tx n b s1 hd.1 1 W (os ++ []) (ks ++ hdK hd.2 ++ []); rw [List.append_nil, List.append_nil]; exact a1) (fun j md hj => by cases hj) (by rw [x108]; rfl) (by rw [x120]; rfl)
    rw [KL, ← Nat.add_assoc] at I
    show match (match pMems (mTT tx n) (N + 1) (800 * b + ks.length + (hdK hd.2).length) os.length 25 (hd.1, [], [], [], []) with
      | .inl e => .inl e
      | .inr z => if (mTT tx n z.1).1 = 125 then .inr (z.1 + 1, (hd.2, z.2.1), hdK hd.2 ++ z.2.2.1, z.2.2.2.1, z.2.2.2.2) else .inl (F2 (mTT tx n) z.1) : (Nat × Nat) ⊕ (Nat × CD × List Nat × List Row × List (Nat × Nat))) with
      | .inl e => _
      | .inr r => _
    cases hm : pMems (mTT tx n) (N + 1) (800 * b + ks.length + (hdK hd.2).length) os.length 25 (hd.1, [], [], [], []) with
    | inl e =>
      rw [hm] at I
      obtain ⟨s2, j, x, i1, i2, i3, i4, i5⟩ := I
      refine ⟨s2, x, ?_, i3, i4, r1.tr i5⟩
      rw [e1, show mjN = (mjN - j) + j by omega]; exact i1 _
    | inr z =>
      rw [hm] at I
      obtain ⟨i1, i2, i3, i4, i5, i6, s2, j, W2, j1, j2, a2, rm2, y108, y120, q2, l2, r2⟩ := I
      have i2' : hd.1 ≤ z.1 := i2
      have i5' : 6 * z.2.2.2.1.length ≤ 6 * 0 + 7 * (z.1 - hd.1) := i5
      have i6' : 4 * z.2.2.1.length ≤ 4 * 0 + (z.1 - hd.1) := i6
      obtain ⟨qq, hqq⟩ : ∃ q, mjN = (q + 1 + 1) + j := ⟨mjN - j - 2, by omega⟩
      have e2 : mjF (D + 15) 267 [.ref 97] (mjW0 s) = lM D (qq + 1 + 1) C s2 := by
        rw [e1, hqq]; exact j1 _
      have r12 : offCl b C fm s s2 := r1.tr r2
      by_cases e125 : (mTT tx n z.1).1 = 125
      · simp only [if_pos e125]
        have hl := lt_N hN h0 i3 e125 (by decide)
        obtain ⟨s3, e3, a3, r3, f3⟩ := m_closes (d := D + 10) a2 (c := 125) (by decide) e125
        have q3 : ∀ x j, (100 ≤ x ∧ x ≤ 120) ∨ (123 ≤ x ∧ x ≤ 135) → s3.1 x j = s2.1 x j := fun x j e => r3.1 x j (by unfold chE; omega)
        have l3 : ∀ x j, (100 ≤ x ∧ x ≤ 120) ∨ (123 ≤ x ∧ x ≤ 135) → s3.2.1 x j = s2.2.1 x j := fun x j e => r3.2.1 x j (by unfold chEL; omega)
        refine ⟨by show k < z.1 + 1; omega, by show z.1 + 1 ≤ N; omega, by show 6 * z.2.2.2.1.length ≤ 7 * (z.1 + 1 - k); omega, ?_, g4, i4, s3, W2, ?_, ?_, ⟨?_, ?_, ?_⟩, ?_, ?_, r12.tr (offCl_E r3)⟩
        · show 4 * (hdK hd.2 ++ z.2.2.1).length ≤ z.1 + 1 - k
          rw [List.length_append]; omega
        · rw [e2]
          unfold lM
          rw [L267m_S]
          unfold b_267_371
          rw [xg_97_61, a2.2.1.2.1, if_pos rfl, xV_97, v_sign a2.at (c := 125) (by decide), bI_s, i01, if_pos e125]
          unfold b_267_395
          rw [xg_97_61, a2.2.1.2.1, if_pos rfl, xV_97, e3, bN_s]
        · rw [List.append_assoc] at a3; exact a3
        · obtain ⟨p1, p2, p3, p4, p5, p6, p7, p8, p9⟩ := rh
          refine ⟨?_, ?_, ⟨?_, fun j hj => ?_⟩, fun hz => ?_, fun hz => ?_, ⟨?_, fun j hj => ?_⟩, ?_, p8, p9⟩
          · rw [l3 101 _ (by omega), l2 101 _ (by omega), p1]
          · rw [q3 102 _ (by omega), q2 102 _ (by omega), p2]
          · rw [q3 104 _ (by omega), q2 104 _ (by omega)]; exact p3.1
          · rw [l3 111 _ (by omega), l2 111 _ (by omega), q3 112 _ (by omega), q2 112 _ (by omega)]; exact p3.2 j hj
          · rw [q3 103 _ (by omega), q2 103 _ (by omega), q3 105 _ (by omega), q2 105 _ (by omega)]; exact p4 hz
          · rw [q3 103 _ (by omega), q2 103 _ (by omega), q3 105 _ (by omega), q2 105 _ (by omega)]
            obtain ⟨c1, i, c2, c3⟩ := p5 hz
            refine ⟨c1, i, ?_, c3⟩
            show (ks ++ (hdK hd.2 ++ z.2.2.1))[i]? = _
            rw [← List.append_assoc]
            have hi := (List.getElem?_eq_some_iff.mp c2).1
            rw [List.getElem?_append_left hi]; exact c2
          · rw [q3 106 _ (by omega), q2 106 _ (by omega)]; exact p6.1
          · rw [l3 113 _ (by omega), l2 113 _ (by omega), q3 115 _ (by omega), q2 115 _ (by omega), l3 114 _ (by omega), l2 114 _ (by omega), q3 116 _ (by omega), q2 116 _ (by omega)]; exact p6.2 j hj
          · rw [q3 107 _ (by omega), q2 107 _ (by omega), p7]
        · rw [q3 108 _ (by omega), y108]
        · intro j md hj
          obtain ⟨⟨p1, p2, p3, p4⟩, p5, ⟨p6, p7⟩, p8, p9, p10⟩ := rm2 j md hj
          refine ⟨⟨by rw [q3 124 _ (by omega), p1], by rw [q3 126 _ (by omega), p2], by rw [q3 127 _ (by omega), p3], by rw [l3 132 _ (by omega), p4]⟩, by rw [q3 125 _ (by omega), p5], ⟨by rw [q3 128 _ (by omega), p6], fun i p hp => ?_⟩, by rw [q3 129 _ (by omega), p8], by rw [q3 131 _ (by omega), p9], p10⟩
          rw [q3 133 _ (by omega), q3 134 _ (by omega), l3 135 _ (by omega)]; exact p7 i p hp
        · rw [q3 100 _ (by omega), q2 100 _ (by omega), x100]
        · rw [q3 120 _ (by omega), y120]
      · simp only [if_neg e125]
        have n10 : ¬ (mTT tx n z.1).1 = 10 := fun q => i1 (by rw [q]; decide)
        have n2 : ¬ (mTT tx n z.1).1 = 2 := fun q => i1 (by rw [q]; decide)
        have z3 := m_wz a2
        refine ⟨_, _, ?_, z3, ?_, r12.tr (offCl_E (bS_off _ _))⟩
        · rw [e2]
          unfold lM
          rw [L267m_S]
          unfold b_267_371
          rw [xg_97_61, a2.2.1.2.1, if_pos rfl, xV_97, v_sign a2.at (c := 125) (by decide), bI_s, i01, if_neg e125, xV_97, e_275]
          unfold f_275 b_275_0
          rw [xV_97, v_type a2.at, bI_s, i01, if_neg i1, xV_97, m_wrong a2, bN_s, bN_s, L267m_S]
          unfold b_267_371
          rw [xg_97_61, if_neg z3.n0]
          unfold b_267_395
          rw [xg_97_61, if_neg z3.n0]
        · rw [List.length_append]; omega
end MJ99
