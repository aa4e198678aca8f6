/-! ===== the reference: TYPE NAME = E; ===== -/
section MJ87A
variable {T : TT} {M : Nat}
theorem ap_ne {l : List Row} {a : Row} : l ++ [a] ≠ [] := by simp
theorem pLoop_ne {sg : Int32 → Bool} {rd : Nat → Nat → PX} {kq : Nat} : ∀ (k : Nat) (z y : PZ), z.2.2.2.1 ≠ [] → pLoop T sg rd kq k z = .inr y → y.2.2.2.1 ≠ []
  | 0, z, y, hz, h => by cases h; exact hz
  | k + 1, z, y, hz, h => by
    unfold pLoop at h
    by_cases g : sg (T z.1).1 = true
    · rw [if_pos g] at h
      cases hd : rd (z.1 + 1) (kq + z.2.2.1.length) with
      | inl e => rw [hd] at h; cases h
      | inr w =>
        rw [hd] at h
        exact pLoop_ne k _ y ap_ne h
    · rw [if_neg g] at h
      cases h
      exact hz
theorem pPost_ne {ra : Nat → Nat → PX} {kq : Nat} : ∀ (k : Nat) (z y : PZ), z.2.2.2.1 ≠ [] → pPost T ra kq k z = .inr y → y.2.2.2.1 ≠ []
  | 0, z, y, hz, h => by cases h; exact hz
  | k + 1, z, y, hz, h => by
    unfold pPost at h
    by_cases g : (T z.1).1 = 20
    · rw [if_pos g] at h
      cases hd : pKind T (z.1 + 1) with
      | inl e => rw [hd] at h; cases h
      | inr c' =>
        rw [hd] at h
        exact pPost_ne k _ y ap_ne h
    · rw [if_neg g] at h
      by_cases g2 : (T z.1).1 = 46
      · rw [if_pos g2] at h
        by_cases g3 : (T (z.1 + 1)).1 = 3
        · rw [if_pos g3] at h
          by_cases g4 : (T (z.1 + 2)).1 = 40
          · rw [if_pos g4] at h
            cases hd : ra (z.1 + 2) (kq + z.2.2.1.length) with
            | inl e => rw [hd] at h; cases h
            | inr w =>
              rw [hd] at h
              exact pPost_ne k _ y (by show z.2.2.2.1 ++ _ ≠ []; simp [hz]) h
          · rw [if_neg g4] at h
            exact pPost_ne k _ y ap_ne h
        · rw [if_neg g3] at h; cases h
      · rw [if_neg g2] at h
        cases h
        exact hz
/-- an E gives an order at least -/
theorem prE_ne : ∀ (f tag o c kq : Nat) (y : PZ), tag ≤ 5 → prE T M f tag o c kq = .inr y → y.2.2.2.1 ≠ []
  | 0, _, _, _, _, _, _, h => by cases h
  | f + 1, 0, o, c, kq, y, _, h => by
    rw [prE_0] at h
    cases hd : prE T M f 1 o c kq with
    | inl e => rw [hd] at h; cases h
    | inr z =>
      rw [hd] at h
      by_cases g : isCmp (T z.1).1 = true
      · simp only [if_pos g] at h
        cases hd2 : prE T M f 1 o (z.1 + 1) (kq + z.2.2.1.length) with
        | inl e => rw [hd2] at h; cases h
        | inr w =>
          rw [hd2] at h
          cases h
          exact ap_ne
      · simp only [if_neg g] at h
        cases h
        exact prE_ne f 1 o c kq _ (by omega) hd
  | f + 1, 1, o, c, kq, y, _, h => by
    rw [prE_1] at h
    cases hd : prE T M f 2 o c kq with
    | inl e => rw [hd] at h; cases h
    | inr z =>
      rw [hd] at h
      exact pLoop_ne M z y (prE_ne f 2 o c kq z (by omega) hd) h
  | f + 1, 2, o, c, kq, y, _, h => by
    rw [prE_2] at h
    cases hd : prE T M f 3 o c kq with
    | inl e => rw [hd] at h; cases h
    | inr z =>
      rw [hd] at h
      exact pLoop_ne M z y (prE_ne f 3 o c kq z (by omega) hd) h
  | f + 1, 3, o, c, kq, y, _, h => by
    rw [prE_3] at h
    by_cases g : (T c).1 = 45
    · rw [if_pos g] at h
      by_cases g2 : o = 12
      · rw [if_pos g2] at h; cases h
      · rw [if_neg g2] at h
        cases hd : prE T M f 3 (o + 1) (c + 1) kq with
        | inl e => rw [hd] at h; cases h
        | inr z =>
          rw [hd] at h
          cases h
          exact ap_ne
    · rw [if_neg g] at h
      exact prE_ne f 4 o c kq y (by omega) h
  | f + 1, 4, o, c, kq, y, _, h => by
    rw [prE_4] at h
    cases hd : prE T M f 5 o c kq with
    | inl e => rw [hd] at h; cases h
    | inr z =>
      rw [hd] at h
      exact pPost_ne M z y (prE_ne f 5 o c kq z (by omega) hd) h
  | f + 1, 5, o, c, kq, y, _, h => by
    rw [prE_5] at h
    unfold pAtom at h
    by_cases k3 : (T c).1 = 3
    · rw [if_pos k3] at h; cases h; exact List.cons_ne_nil _ _
    rw [if_neg k3] at h
    by_cases k4 : (T c).1 = 4
    · rw [if_pos k4] at h; cases h; exact List.cons_ne_nil _ _
    rw [if_neg k4] at h
    by_cases k11 : (T c).1 = 11
    · rw [if_pos k11] at h; cases h; exact List.cons_ne_nil _ _
    rw [if_neg k11] at h
    by_cases k12 : (T c).1 = 12
    · rw [if_pos k12] at h; cases h; exact List.cons_ne_nil _ _
    rw [if_neg k12] at h
    by_cases k14 : (T c).1 = 14
    · rw [if_pos k14] at h
      cases hd : pKind T (c + 1) with
      | inl e => rw [hd] at h; cases h
      | inr c' => rw [hd] at h; cases h; exact List.cons_ne_nil _ _
    rw [if_neg k14] at h
    by_cases k40 : (T c).1 = 40
    · rw [if_pos k40] at h
      by_cases g2 : o = 12
      · rw [if_pos g2] at h; cases h
      · rw [if_neg g2] at h
        cases hd : prE T M f 0 (o + 1) (c + 1) kq with
        | inl e => rw [hd] at h; cases h
        | inr z =>
          rw [hd] at h
          by_cases g3 : (T z.1).1 = 41
          · simp only [if_pos g3] at h
            cases h
            exact ap_ne
          · simp only [if_neg g3] at h; cases h
    · rw [if_neg k40] at h; cases h
theorem pType_le {N c c' : Nat} (hN : N ≤ 3000) (h0 : (T N).1 = 0) (hc : c ≤ N) (h : pType T c = .inr c') : c' ≤ N := by
  have r := x_type (d := 0) (p := 0) (o := 0) (v := 0) (ag := fun _ => 0) (sTH_ok hN h0) hc
  rw [h] at r
  exact r.1
theorem pType_len {c c' : Nat} (h : pType T c = .inr c') : c + 1 ≤ c' ∧ (¬ (T c).1 = 10 → c + 4 ≤ c') := by
  unfold pType at h
  by_cases e : (T c).1 = 10
  · rw [if_pos e] at h; cases h; exact ⟨Nat.le_refl _, fun q => absurd e q⟩
  · rw [if_neg e] at h
    have := pKind_len h
    exact ⟨by omega, fun _ => this⟩
theorem lt_N {N c : Nat} (hN : N ≤ 3000) (h0 : (T N).1 = 0) (hc : c ≤ N) {k : Int32} (hk : (T c).1 = k) (h1 : ¬ k = 0) : c < N := lt_of (sTH_ok hN h0) hc hk h1
end MJ87A
section MJ87
variable {tx : Nat → Int32} {n b D k o td N B : Nat} {s : mjSt3} {W : List WF} {os : List Row} {ks : List Nat} {S : List SF}
/-- readDeclare -/
theorem m_decl (h0 : (mTT tx n N).1 = 0) (hN : N ≤ 3000) (hB : B ≤ 1400) (ho : o ≤ 12) (hk : k ≤ N) (hos : os.length ≤ B + k) (hks : 4 * ks.length ≤ k) (htd : td ≤ 16) (h : MR tx n b s k o W os ks) (m : MS s td S) : gSt tx n b s (mjF (D + 11) 285 [.ref 97, .int (mTT tx n k).2.1] (mjW0 s)) o os ks S (pDecl (mTT tx n) (N + 1) o k td (800 * b + ks.length)) := by
  obtain ⟨s1, e1, a1, r1, f1⟩ := m_order (d := D + 9) h (by omega) 1 (mTT tx n k).2.1 0 0
  have L : (os ++ [((1 : Int32), (mTT tx n k).2.1, (0 : Int32), (0 : Int32), (0 : Int64))]).length = os.length + 1 := by rw [List.length_append]; rfl
  have ty := m_type (d := D + 3) a1 (by omega)
  rw [e_285]
  unfold f_285 b_285_0
  rw [xV_97, e1, bN_s, xV_97]
  unfold pDecl
  cases hd : pType (mTT tx n) k with
  | inl e =>
    rw [hd] at ty
    obtain ⟨s2, v, e2, z2, r2⟩ := ty
    refine ⟨s2, _, ?_, z2, by rw [L]; omega, offS_of (r1.tr r2)⟩
    rw [e2, bI_s, xg_97_61, if_neg z2.pos]
  | inr c1 =>
    rw [hd] at ty
    obtain ⟨s2, e2, a2, r2⟩ := ty
    have hc1 := pType_le hN h0 hk hd
    have hlen := pType_len hd
    have r12 := r1.tr r2
    have m2 := m.off r12
    rw [e2, bI_s, xg_97_61, a2.2.1.2.1, if_pos (show (0 : Int32) ≤ 0 by decide), xg_97_3]
    have S3 := (v_srt a2.at).2.1
    by_cases h3 : (mTT tx n c1).1 = 3
    · simp only [if_pos h3]
      have hl1 : c1 < N := lt_N hN h0 hc1 h3 (by decide)
      rw [if_pos (S3.mpr h3), xg_97_67, m2.1]
      by_cases h16 : td = 16
      · simp only [if_pos h16]
        rw [if_pos (show nI td = 16 by rw [h16]; rfl), xg_97_4, a2.at.2.2.1, xV_97, v_fail a2.2.1.2.1, bN_s]
        exact ⟨_, _, rfl, a2.z (e := (3, c1)) (Or.inr (Or.inr rfl)), by rw [L]; omega, offS_of (r12.tr (bS_off _ _))⟩
      · simp only [if_neg h16]
        obtain ⟨t3, h3t⟩ : ∃ t, t = uI s2 97 (upd (s2.1 97) 67 (nI (td + 1))) := ⟨_, rfl⟩
        have a3 : MR tx n b t3 c1 o W (os ++ [(1, (mTT tx n k).2.1, 0, 0, 0)]) (ks ++ (if (mTT tx n k).1 = 10 then [] else [k])) := by rw [h3t]; exact a2.w97 (by omega)
        have o3 : offS b s2 t3 := by rw [h3t]; exact offG.w (by unfold chS; omega)
        have m3 : MS t3 (td + 1) S := by
          obtain ⟨p1, p2, p3⟩ := m2
          rw [h3t]
          refine ⟨?_, ?_, fun i f hf => ?_⟩
          · rw [uI_same]; exact if_pos rfl
          · rw [uI_same]; exact (if_neg (by decide)).trans p2
          · rw [uI_ne _ _ _ _ (by decide), uI_ne _ _ _ _ (by decide), uI_ne _ _ _ _ (by decide)]; exact p3 i f hf
        have o03 : offS b s t3 := (offS_of r12).tr o3
        have L3 : (os ++ [((1 : Int32), (mTT tx n k).2.1, (0 : Int32), (0 : Int32), (0 : Int64))] ++ [((19 : Int32), (mTT tx n c1).2.1, (if (mTT tx n k).1 = 10 then -1 else nI (800 * b + ks.length)), (0 : Int32), (mTT tx n c1).2.2.1)]).length = os.length + 2 := by rw [List.length_append, L]; rfl
        obtain ⟨s4, e4, a4, r4, f4⟩ := m_orderName (d := D + 8) a3 (by rw [L]; omega) 19 (mTT tx n c1).2.1 (if (mTT tx n k).1 = 10 then -1 else nI (800 * b + ks.length)) (mTT tx n c1).2.2.1
        obtain ⟨s5, e5, a5, r5, f5⟩ := m_next (d := D + 7) a4 (by rw [h3]; decide)
        have n67 : nI td + (1 : Int32) = nI (td + 1) := by rw [show (1 : Int32) = nI 1 from rfl, nI_add]
        rw [if_neg (show ¬ nI td = 16 from fun e => h16 ((nI_eq (a := td) (b := 16) (by omega) (by omega)).mp e)), xg_97_67, m2.1, xg_97_67, m2.1, n67, xp_97_67, ← h3t, xg_97_4, a3.at.2.2.1, xg_97_7, a3.at.2.2.2.2 (Or.inr h3), xV_97, e4, bN_s, xV_97, e5, bN_s, xg_97_4, a5.at.2.2.1, xV_97]
        have r45 := r4.tr r5
        have kl : (ks ++ (if (mTT tx n k).1 = 10 then [] else [k])).length = ks.length + (if (mTT tx n k).1 = 10 then 0 else 1) := by
          rw [List.length_append]
          by_cases e : (mTT tx n k).1 = 10
          · rw [if_pos e, if_pos e]; rfl
          · rw [if_neg e, if_neg e]; rfl
        have kl4 : 4 * (ks ++ (if (mTT tx n k).1 = 10 then [] else [k])).length ≤ c1 + 2 := by
          rw [kl]
          by_cases e : (mTT tx n k).1 = 10
          · rw [if_pos e]; omega
          · rw [if_neg e]; have := hlen.2 e; omega
        have last : ∀ e x s6, MZ (mTT tx n) b s6 e x → x ≤ 4700 → offE b t3 s6 → gSt tx n b s (b_285_110 (mjF (D + 10)) 97 (nI td) (mTT tx n (c1 + 1)).2.1 (mjW0 s6)) o os ks S (.inl e) := by
          intro e x s6 z6 hx r6
          obtain ⟨s7, e7, z7, r7, f7⟩ := z_order (d := D + 9) z6 (by omega) 20 (mTT tx n (c1 + 1)).2.1 (nI td) 0
          refine ⟨s7, _, ?_, z7, by omega, o03.tr (offS_of (r6.tr r7))⟩
          unfold b_285_110
          rw [xg_97_61, if_neg z6.n0]
          unfold b_285_123
          rw [xV_97, e7, bN_s]
        by_cases h61 : (mTT tx n (c1 + 1)).1 = 61
        · simp only [if_pos h61]
          have hl2 : c1 + 1 < N := lt_N hN h0 (by omega) h61 (by decide)
          obtain ⟨s6, e6, a6, r6, f6⟩ := m_take (d := D + 6) a5 (c := 61) (by decide) h61
          have C := m_E (D := D) h0 hN (show B + 100 ≤ 1500 by omega) ho (show c1 + 1 + 1 ≤ N from hl2) (by rw [L3]; omega) (by omega) a6
          rw [e6, bN_s, xg_97_61, a6.2.1.2.1, if_pos rfl, xV_97]
          have r46 := r45.tr r6
          rw [kl, ← Nat.add_assoc] at C
          have bad : ∀ e, (∃ s' x, mjF (D + 10) 287 [.ref 97] (mjW0 s6) = some (none, mjW0 s') ∧ MZ (mTT tx n) b s' e x ∧ x ≤ 4700 ∧ offE b s6 s') → gSt tx n b s (bN (mjF (D + 10) 287 [.ref 97] (mjW0 s6)) (fun hp17 => b_285_110 (mjF (D + 10)) 97 (nI td) (mTT tx n (c1 + 1)).2.1 hp17)) o os ks S (.inl e) := by
            rintro e ⟨s7, x, e7, z7, hx, r7⟩
            rw [e7, bN_s]
            exact last e x s7 z7 hx (r46.tr r7)
          cases hv : prV (mTT tx n) (N + 1) o (c1 + 2) (800 * b + ks.length + (if (mTT tx n k).1 = 10 then 0 else 1)) with
          | inl e =>
            have C' := C
            rw [show c1 + 1 + 1 = c1 + 2 from rfl, hv] at C'
            exact bad e C'
          | inr y =>
            have C' := C
            rw [show c1 + 1 + 1 = c1 + 2 from rfl, hv] at C'
            obtain ⟨y1, y2, y3⟩ : lnZ (c1 + 2) 0 y := prE_len 100 0 _ _ _ y (by omega) hv
            have hyN := (prE_le hN h0 ho (show c1 + 2 ≤ N from hl2)).1 (by omega) hv
            by_cases hc : isCmp (mTT tx n y.1).1 = true
            · have n59 : ¬ (mTT tx n y.1).1 = 59 := fun e => by rw [e] at hc; exact absurd hc (by decide)
              simp only [if_neg n59]
              exact bad _ (C'.1 hc)
            · obtain ⟨s7, e7, a7, r7, f7⟩ := C'.2 hc
              have L7 : ∀ l : List Row, (os ++ [((1 : Int32), (mTT tx n k).2.1, (0 : Int32), (0 : Int32), (0 : Int64))] ++ [((19 : Int32), (mTT tx n c1).2.1, (if (mTT tx n k).1 = 10 then -1 else nI (800 * b + ks.length)), (0 : Int32), (mTT tx n c1).2.2.1)] ++ l).length = os.length + 2 + l.length := fun l => by rw [List.length_append, L3]
              by_cases h59 : (mTT tx n y.1).1 = 59
              · simp only [if_pos h59]
                obtain ⟨s8, e8, a8, r8, f8⟩ := m_take (d := D + 6) a7 (c := 59) (by decide) h59
                obtain ⟨s9, e9, a9, r9, f9⟩ := m_order (d := D + 9) a8 (by rw [L7]; omega) 20 (mTT tx n (c1 + 1)).2.1 (nI td) 0
                have rr := r46.tr (r7.tr (r8.tr r9))
                refine ⟨s9, [], ?_, ?_, m3.off rr, o03.tr (offS_of rr)⟩
                · rw [e7, bN_s]
                  unfold b_285_110
                  rw [xg_97_61, a7.2.1.2.1, if_pos rfl, xV_97, e8, bN_s]
                  unfold b_285_123
                  rw [xV_97, e9, bN_s]
                · rw [List.append_assoc, List.append_assoc, List.append_assoc, List.append_assoc] at a9
                  exact a9
              · simp only [if_neg h59]
                have e8 := m_takeB (d := D + 6) a7 (c := 59) (by decide) h59
                obtain ⟨s9, e9, z9, r9, f9⟩ := z_order (d := D + 9) (m_wz a7) (by rw [L7]; omega) 20 (mTT tx n (c1 + 1)).2.1 (nI td) 0
                refine ⟨s9, _, ?_, z9, by rw [L7]; omega, o03.tr (offS_of (r46.tr (r7.tr ((bS_off _ _).tr r9))))⟩
                rw [e7, bN_s]
                unfold b_285_110
                rw [xg_97_61, a7.2.1.2.1, if_pos rfl, xV_97, e8, bN_s]
                unfold b_285_123
                rw [xV_97, e9, bN_s]
        · simp only [if_neg h61]
          have e6 := m_takeB (d := D + 6) a5 (c := 61) (by decide) h61
          have z6 := m_wz a5
          rw [e6, bN_s, xg_97_61, if_neg z6.n0]
          exact last _ _ _ z6 (by rw [L3]; omega) (r45.tr (bS_off _ _))
    · simp only [if_neg h3]
      rw [if_neg (fun q => h3 (S3.mp q)), xV_97, m_wrong a2, bN_s]
      exact ⟨_, _, rfl, m_wz a2, by rw [L]; omega, offS_of (r12.tr (bS_off _ _))⟩
end MJ87
