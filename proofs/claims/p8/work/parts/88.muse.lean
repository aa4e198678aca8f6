/-! ===== the reference: an E; or an E = E; ===== -/
theorem snoc_of : ∀ (l : List Row), l ≠ [] → ∃ q r, l = q ++ [r]
  | [], h => absurd rfl h
  | [a], _ => ⟨[], a, rfl⟩
  | a :: b :: t, _ => by
    obtain ⟨q, r, e⟩ := snoc_of (b :: t) (List.cons_ne_nil _ _)
    exact ⟨a :: q, r, by rw [e]; rfl⟩
theorem set_end : ∀ (A : List Row) (r x : Row), (A ++ [r]).set A.length x = A ++ [x]
  | [], _, _ => rfl
  | a :: t, r, x => by
    show a :: ((t ++ [r]).set t.length x) = _
    rw [set_end t r x]; rfl
theorem get_end : ∀ (A : List Row) (r : Row), (A ++ [r])[A.length]? = some r
  | [], _ => rfl
  | a :: t, r => by
    show (t ++ [r])[t.length]? = _
    exact get_end t r
theorem oLast_end (q : List Row) (r : Row) : oLast (q ++ [r]) = r := by
  unfold oLast
  simp
theorem oLeft_end (sh : Int32) (q : List Row) (r : Row) : oLeft sh (q ++ [r]) = q ++ [(if sh = 1 then 15 else 16, r.2)] := by
  unfold oLeft
  rw [oLast_end]
  simp
section MJ88
variable {tx : Nat → Int32} {n b D k o td N B : Nat} {s : mjSt3} {W : List WF} {os : List Row} {ks : List Nat} {S : List SF}
theorem u_65 {w : Int32} {i : Int32} (h : MR tx n b s k o W os ks) : b_298_65 (mjF D) 97 w i (mjW0 s) = b_298_88 (mjF D) 97 w i (mTT tx n k).2.1 143 i (if w = 1 then 15 else 16) (mjW0 s) := by
  unfold b_298_65
  rw [xg_97_4, h.at.2.2.1, xg_97_54]
  by_cases e : w = 1
  · rw [if_pos e, if_pos e]
  · rw [if_neg e, if_neg e]
theorem u_131 {w p q x : Int32} {hp : mjH} : b_298_131 (mjF D) 97 w p q x hp = b_298_144 (mjF D) p q x 97 (if w = 1 then 17 else 18) hp := by
  unfold b_298_131
  by_cases e : w = 1
  · rw [if_pos e, if_pos e]
  · rw [if_neg e, if_neg e]
/-- readUse -/
theorem m_use (h0 : (mTT tx n N).1 = 0) (hN : N ≤ 3000) (hB : B ≤ 1400) (ho : o ≤ 12) (hk : k ≤ N) (hos : os.length ≤ B + k) (hks : 4 * ks.length ≤ k) (h : MR tx n b s k o W os ks) (m : MS s td S) : gSt tx n b s (mjF (D + 11) 298 [.ref 97, .int (mTT tx n k).2.1] (mjW0 s)) o os ks S (pUse (mTT tx n) (N + 1) o k td (800 * b + ks.length) os.length) := by
  have hb := h.2.1.1
  obtain ⟨s1, e1, a1, r1, f1⟩ := m_order (d := D + 9) h (by omega) 1 (mTT tx n k).2.1 0 0
  have L : (os ++ [((1 : Int32), (mTT tx n k).2.1, (0 : Int32), (0 : Int32), (0 : Int64))]).length = os.length + 1 := by rw [List.length_append]; rfl
  have C := m_E (D := D) h0 hN (show B + 100 ≤ 1500 by omega) ho hk (by rw [L]; omega) hks a1
  rw [e_298]
  unfold f_298 b_298_0
  rw [xV_97, e1, bN_s, xV_97]
  unfold pUse
  cases hd : prV (mTT tx n) (N + 1) o k (800 * b + ks.length) with
  | inl e =>
    rw [hd] at C
    obtain ⟨s2, x, e2, z2, hx, r2⟩ := C
    refine ⟨s2, x, ?_, z2, by omega, offS_of (r1.tr r2)⟩
    rw [e2, bN_s, xg_97_61, if_neg z2.pos]
  | inr y =>
    rw [hd] at C
    obtain ⟨y1, y2, y3⟩ : lnZ k 0 y := prE_len 100 0 _ _ _ y (by omega) hd
    have hyN := (prE_le hN h0 ho hk).1 (by omega) hd
    by_cases hc : isCmp (mTT tx n y.1).1 = true
    · have n59 : ¬ (mTT tx n y.1).1 = 59 := fun e => by rw [e] at hc; exact absurd hc (by decide)
      have n61 : ¬ (mTT tx n y.1).1 = 61 := fun e => by rw [e] at hc; exact absurd hc (by decide)
      simp only [if_neg (show ¬ ((mTT tx n y.1).1 = 61 ∧ (y.2.1 = 1 ∨ y.2.1 = 2)) from fun q => n61 q.1), if_neg (show ¬ ((mTT tx n y.1).1 = 59 ∧ y.2.1 = 3) from fun q => n59 q.1)]
      obtain ⟨s2, x, e2, z2, hx, r2⟩ := C.1 hc
      refine ⟨s2, x, ?_, z2, by omega, offS_of (r1.tr r2)⟩
      rw [e2, bN_s, xg_97_61, if_neg z2.pos]
    · obtain ⟨s2, e2, a2, r2, f2⟩ := C.2 hc
      have r12 := r1.tr r2
      have m2 := m.off r12
      obtain ⟨q, r, hq⟩ := snoc_of _ (prE_ne 100 0 _ _ _ y (by omega) hd)
      have ql : y.2.2.2.1.length = q.length + 1 := by rw [hq, List.length_append]; rfl
      obtain ⟨A, hA⟩ : ∃ A, A = os ++ [((1 : Int32), (mTT tx n k).2.1, (0 : Int32), (0 : Int32), (0 : Int64))] ++ q := ⟨_, rfl⟩
      have AL : A.length = os.length + 1 + q.length := by rw [hA, List.length_append, L]
      have a2' : MR tx n b s2 y.1 o [] (A ++ [r]) (ks ++ y.2.2.1) := by
        rw [hA, List.append_assoc, ← hq]; exact a2
      have AL1 : (A ++ [r]).length = A.length + 1 := by rw [List.length_append]; rfl
      have ix : (5000 : Int32) * nI b + nI (A ++ [r]).length - 1 = nI (5000 * b + A.length) := by
        rw [AL1, idx5 hb, ← Nat.add_assoc, nI_pred]
      rw [e2, bN_s, xg_97_61, a2'.2.1.2.1, if_pos (show (0 : Int32) ≤ 0 by decide), xg_97_77, f2, xg_97_63, a2'.2.1.2.2.1, xg_97_33, xg_97_63, a2'.2.1.2.2.1, xa_122, if_pos (mj_in_nI (by omega) (by decide)), nI_clamp (by omega), a2'.2.2.2.1.1, ix, xV_97, v_sign a2'.at (c := 61) (by decide), bI_s, i01]
      by_cases hL : (mTT tx n y.1).1 = 61 ∧ (y.2.1 = 1 ∨ y.2.1 = 2)
      · simp only [if_pos hL]
        have two : (if y.2.1 = 1 then b_298_65 (mjF (D + 10)) 97 y.2.1 (nI (5000 * b + A.length)) (mjW0 s2) else if y.2.1 = 2 then b_298_65 (mjF (D + 10)) 97 y.2.1 (nI (5000 * b + A.length)) (mjW0 s2) else b_298_156 (mjF (D + 10)) 97 (mTT tx n k).2.1 y.2.1 (mjW0 s2)) = b_298_65 (mjF (D + 10)) 97 y.2.1 (nI (5000 * b + A.length)) (mjW0 s2) := by
          by_cases e : y.2.1 = 1
          · rw [if_pos e]
          · rw [if_neg e, if_pos (hL.2.resolve_left e)]
        have hl1 : y.1 < N := lt_N hN h0 hyN hL.1 (by decide)
        rw [if_pos hL.1, two, u_65 a2']
        have aS := a2'.setR (x := 143) (v := if y.2.1 = 1 then 15 else 16) (r' := (if y.2.1 = 1 then 15 else 16, r.2)) (get_end A r) (Or.inl ⟨rfl, rfl⟩)
        have oS : offE b s2 (uI s2 143 (upd (s2.1 143) (5000 * b + A.length) (if y.2.1 = 1 then 15 else 16))) := setR_off (by omega) (by omega)
        rw [set_end] at aS
        obtain ⟨t3, h3⟩ : ∃ t, t = uI s2 143 (upd (s2.1 143) (5000 * b + A.length) (if y.2.1 = 1 then 15 else 16)) := ⟨_, rfl⟩
        rw [← h3] at aS oS
        have AL2 : (A ++ [((if y.2.1 = 1 then 15 else 16 : Int32), r.2)]).length = A.length + 1 := by rw [List.length_append]; rfl
        obtain ⟨s4, e4, a4, r4, f4⟩ := m_next (d := D + 7) aS (by rw [hL.1]; decide)
        have rw3 := (aS.2.2.2.1.2 A.length _ (get_end A _)).2.1
        have C2 := m_E (D := D) h0 hN (show B + 100 ≤ 1500 by omega) ho (show y.1 + 1 ≤ N from hl1) (by rw [AL2]; omega) (by rw [List.length_append]; omega) a4
        have pre : b_298_88 (mjF (D + 10)) 97 y.2.1 (nI (5000 * b + A.length)) (mTT tx n y.1).2.1 143 (nI (5000 * b + A.length)) (if y.2.1 = 1 then 15 else 16) (mjW0 s2) = bN (mjF (D + 10) 287 [.ref 97] (mjW0 s4)) (fun hp8 => gI hp8 97 12 61 (fun v9 => (if v9 = 0 then rV hp8 97 12 (bN (mjF (D + 10) 270 [.ref 97, .int (59 : Int32)] hp8) (fun hp10 => b_298_131 (mjF (D + 10)) 97 y.2.1 (mTT tx n y.1).2.1 r.2.1 (nI A.length) hp10)) else b_298_131 (mjF (D + 10)) 97 y.2.1 (mTT tx n y.1).2.1 r.2.1 (nI A.length) hp8))) := by
          unfold b_298_88
          rw [xs_143, if_pos (mj_in_nI (by omega) (by decide)), nI_clamp (by omega), ← h3, xg_97_55, xa_144, if_pos (mj_in_nI (by omega) (by decide)), nI_clamp (by omega), rw3, xg_97_33, xg_97_63, aS.2.1.2.2.1, xa_122, if_pos (mj_in_nI (by omega) (by decide)), nI_clamp (by omega), aS.2.2.2.1.1, AL2, nI_pred, xV_97, e4, bN_s, xV_97]
        rw [pre]
        rw [List.length_append, ← Nat.add_assoc] at C2
        have r14 := r12.tr (oS.tr r4)
        have last : ∀ e x s6, MZ (mTT tx n) b s6 e x → x ≤ 4700 → offE b s s6 → gSt tx n b s (b_298_131 (mjF (D + 10)) 97 y.2.1 (mTT tx n y.1).2.1 r.2.1 (nI A.length) (mjW0 s6)) o os ks S (.inl e) := by
          intro e x s6 z6 hx r6
          obtain ⟨s7, e7, z7, r7, f7⟩ := z_order (d := D + 9) z6 (by omega) (if y.2.1 = 1 then 17 else 18) (mTT tx n y.1).2.1 (nI A.length) r.2.1
          refine ⟨s7, _, ?_, z7, by omega, offS_of (r6.tr r7)⟩
          rw [u_131]
          unfold b_298_144
          rw [xV_97, e7, bN_s]
        have bad : ∀ e, (∃ s' x, mjF (D + 10) 287 [.ref 97] (mjW0 s4) = some (none, mjW0 s') ∧ MZ (mTT tx n) b s' e x ∧ x ≤ 4700 ∧ offE b s4 s') → gSt tx n b s (bN (mjF (D + 10) 287 [.ref 97] (mjW0 s4)) (fun hp8 => gI hp8 97 12 61 (fun v9 => (if v9 = 0 then rV hp8 97 12 (bN (mjF (D + 10) 270 [.ref 97, .int (59 : Int32)] hp8) (fun hp10 => b_298_131 (mjF (D + 10)) 97 y.2.1 (mTT tx n y.1).2.1 r.2.1 (nI A.length) hp10)) else b_298_131 (mjF (D + 10)) 97 y.2.1 (mTT tx n y.1).2.1 r.2.1 (nI A.length) hp8)))) o os ks S (.inl e) := by
          rintro e ⟨s7, x, e7, z7, hx, r7⟩
          rw [e7, bN_s, xg_97_61, if_neg z7.n0]
          exact last e x s7 z7 hx (r14.tr r7)
        cases hv : prV (mTT tx n) (N + 1) o (y.1 + 1) (800 * b + ks.length + y.2.2.1.length) with
        | inl e =>
          rw [hv] at C2
          exact bad e C2
        | inr z =>
          rw [hv] at C2
          obtain ⟨z1, z2, z3⟩ : lnZ (y.1 + 1) 0 z := prE_len 100 0 _ _ _ z (by omega) hv
          have hzN := (prE_le hN h0 ho (show y.1 + 1 ≤ N from hl1)).1 (by omega) hv
          by_cases hc2 : isCmp (mTT tx n z.1).1 = true
          · have n59 : ¬ (mTT tx n z.1).1 = 59 := fun e => by rw [e] at hc2; exact absurd hc2 (by decide)
            simp only [if_neg n59]
            exact bad _ (C2.1 hc2)
          · obtain ⟨s7, e7, a7, r7, f7⟩ := C2.2 hc2
            have L7 : (A ++ [((if y.2.1 = 1 then 15 else 16 : Int32), r.2)] ++ z.2.2.2.1).length = A.length + 1 + z.2.2.2.1.length := by rw [List.length_append, AL2]
            by_cases h59 : (mTT tx n z.1).1 = 59
            · simp only [if_pos h59]
              obtain ⟨s8, e8, a8, r8, f8⟩ := m_take (d := D + 6) a7 (c := 59) (by decide) h59
              obtain ⟨s9, e9, a9, r9, f9⟩ := m_order (d := D + 9) a8 (by rw [L7]; omega) (if y.2.1 = 1 then 17 else 18) (mTT tx n y.1).2.1 (nI A.length) r.2.1
              have rr := r14.tr (r7.tr (r8.tr r9))
              refine ⟨s9, [], ?_, ?_, m.off rr, offS_of rr⟩
              · rw [e7, bN_s, xg_97_61, a7.2.1.2.1, if_pos rfl, xV_97, e8, bN_s, u_131]
                unfold b_298_144
                rw [xV_97, e9, bN_s]
              · show MR tx n b s9 (z.1 + 1) o [] (os ++ (oLine (mTT tx n) k :: (oLeft y.2.1 y.2.2.2.1 ++ z.2.2.2.1 ++ [(if y.2.1 = 1 then 17 else 18, (mTT tx n y.1).2.1, nI (os.length + y.2.2.2.1.length), (oLast y.2.2.2.1).2.1, 0)]))) (ks ++ (y.2.2.1 ++ z.2.2.1))
                rw [hq, oLeft_end, oLast_end, ← hq, ql, show os.length + (q.length + 1) = A.length by omega]
                have e1 : os ++ (oLine (mTT tx n) k :: (q ++ [(if y.2.1 = 1 then 15 else 16, r.2)] ++ z.2.2.2.1 ++ [((if y.2.1 = 1 then 17 else 18 : Int32), (mTT tx n y.1).2.1, nI A.length, r.2.1, (0 : Int64))])) = A ++ [((if y.2.1 = 1 then 15 else 16 : Int32), r.2)] ++ z.2.2.2.1 ++ [((if y.2.1 = 1 then 17 else 18 : Int32), (mTT tx n y.1).2.1, nI A.length, r.2.1, (0 : Int64))] := by
                  generalize nI A.length = g
                  rw [hA]
                  simp [oLine]
                rw [e1, ← List.append_assoc]
                exact a9
            · simp only [if_neg h59]
              have e8 := m_takeB (d := D + 6) a7 (c := 59) (by decide) h59
              obtain ⟨s9, e9, z9, r9, f9⟩ := z_order (d := D + 9) (m_wz a7) (by rw [L7]; omega) (if y.2.1 = 1 then 17 else 18) (mTT tx n y.1).2.1 (nI A.length) r.2.1
              refine ⟨s9, _, ?_, z9, by rw [L7]; omega, offS_of (r14.tr (r7.tr ((bS_off _ _).tr r9)))⟩
              rw [e7, bN_s, xg_97_61, a7.2.1.2.1, if_pos rfl, xV_97, e8, bN_s, u_131]
              unfold b_298_144
              rw [xV_97, e9, bN_s]
      · simp only [if_neg hL]
        have two : (if (mTT tx n y.1).1 = 61 then (if y.2.1 = 1 then b_298_65 (mjF (D + 10)) 97 y.2.1 (nI (5000 * b + A.length)) (mjW0 s2) else if y.2.1 = 2 then b_298_65 (mjF (D + 10)) 97 y.2.1 (nI (5000 * b + A.length)) (mjW0 s2) else b_298_156 (mjF (D + 10)) 97 (mTT tx n k).2.1 y.2.1 (mjW0 s2)) else b_298_156 (mjF (D + 10)) 97 (mTT tx n k).2.1 y.2.1 (mjW0 s2)) = b_298_156 (mjF (D + 10)) 97 (mTT tx n k).2.1 y.2.1 (mjW0 s2) := by
          by_cases e : (mTT tx n y.1).1 = 61
          · rw [if_pos e, if_neg (fun q => hL ⟨e, Or.inl q⟩), if_neg (fun q => hL ⟨e, Or.inr q⟩)]
          · rw [if_neg e]
        rw [two]
        unfold b_298_156
        rw [xV_97, v_sign a2'.at (c := 59) (by decide), bI_s, i01]
        by_cases hR : (mTT tx n y.1).1 = 59 ∧ y.2.1 = 3
        · simp only [if_pos hR]
          obtain ⟨s8, e8, a8, r8, f8⟩ := m_next (d := D + 7) a2 (by rw [hR.1]; decide)
          obtain ⟨s9, e9, a9, r9, f9⟩ := m_order (d := D + 9) a8 (by rw [List.length_append, L]; omega) 25 (mTT tx n k).2.1 0 0
          have rr := r12.tr (r8.tr r9)
          refine ⟨s9, [], ?_, ?_, m.off rr, offS_of rr⟩
          · rw [if_pos hR.1, if_pos hR.2, xV_97, e8, bN_s, xV_97, e9, bN_s]
          · rw [List.append_assoc, List.append_assoc] at a9
            exact a9
        · simp only [if_neg hR]
          have two : (if (mTT tx n y.1).1 = 59 then (if y.2.1 = 3 then rV (mjW0 s2) 97 12 (bN (mjF (D + 10) 262 [.ref 97] (mjW0 s2)) (fun hp3 => rV hp3 97 12 (bN (mjF (D + 10) 281 [.ref 97, .int (25 : Int32), .int (mTT tx n k).2.1, .int (0 : Int32), .int (0 : Int32)] hp3) (fun hp4 => some (none, hp4))))) else b_298_186 (mjF (D + 10)) 97 (mjW0 s2)) else b_298_186 (mjF (D + 10)) 97 (mjW0 s2)) = b_298_186 (mjF (D + 10)) 97 (mjW0 s2) := by
            by_cases e : (mTT tx n y.1).1 = 59
            · rw [if_pos e, if_neg (fun q => hR ⟨e, q⟩)]
            · rw [if_neg e]
          rw [two]
          unfold b_298_186
          rw [xV_97, m_wrong a2, bN_s]
          exact ⟨_, _, rfl, m_wz a2, by rw [List.length_append, L]; omega, offS_of (r12.tr (bS_off _ _))⟩
end MJ88
