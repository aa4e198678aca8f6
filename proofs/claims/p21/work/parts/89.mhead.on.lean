section
/-! ===== the reference: if ( E ), while ( E ); the end of a block ===== -/
/-- the front of pGrd -/
def pHd (T : TT) (M o c kq : Nat) : (Nat × Nat) ⊕ PZ :=
  if (T (c + 1)).1 = 40 then (if o = 12 then .inl (3, c + 1) else (match prV T M (o + 1) (c + 2) kq with
    | .inl e => .inl e
    | .inr y => if (T y.1).1 = 41 then .inr y else .inl (F2 T y.1)))
  else .inl (F2 T (c + 1))
theorem pGrd_hd (T : TT) (M : Nat) (bl : Nat → Nat → Nat → Nat → PY) (o c td kq i0 : Nat) : pGrd T M bl o c td kq i0 = (match pHd T M o c kq with
    | .inl e => .inl e
    | .inr y => (match bl (y.1 + 1) td (kq + y.2.2.1.length) (i0 + y.2.2.2.1.length + 1) with
        | .inl e => .inl e
        | .inr z => .inr (y, z))) := by
  unfold pGrd pHd
  by_cases h : (T (c + 1)).1 = 40
  · rw [if_pos h, if_pos h]
    by_cases h2 : o = 12
    · rw [if_pos h2, if_pos h2]
    · rw [if_neg h2, if_neg h2]
      cases prV T M (o + 1) (c + 2) kq with
      | inl e => rfl
      | inr y =>
        by_cases h3 : (T y.1).1 = 41
        · simp only [if_pos h3]
          cases bl (y.1 + 1) td (kq + y.2.2.1.length) (i0 + y.2.2.2.1.length + 1) <;> rfl
        · simp only [if_neg h3]
  · rw [if_neg h, if_neg h]
section MJ89
variable {tx : Nat → Int32} {n b D k o td N B : Nat} {s : mjSt3} {W : List WF} {os : List Row} {ks : List Nat} {S : List SF}
/-- the orders ahead of the E -/
def hdO (T : TT) (k : Nat) : List Row := if (T k).1 = 15 then [oLine T k] else [oLine T k, (2, (T k).2.1, 0, 0, 0)]
theorem hdO_len {T : TT} : 1 ≤ (hdO T k).length ∧ (hdO T k).length ≤ 2 := by
  unfold hdO
  by_cases h : (T k).1 = 15
  · rw [if_pos h]; exact ⟨Nat.le_refl _, by show 1 ≤ 2; omega⟩
  · rw [if_neg h]; exact ⟨by show 1 ≤ 2; omega, Nat.le_refl _⟩
theorem m_head (h0 : (mTT tx n N).1 = 0) (hN : N ≤ 3000) (hB : B ≤ 1400) (ho : o ≤ 12) (hk : k ≤ N) (hos : os.length ≤ B + k) (hks : 4 * ks.length ≤ k) (h : MR tx n b s k o W os ks) (m : MS s td S) (hw : (mTT tx n k).1 = 15 ∨ (mTT tx n k).1 = 17) : match pHd (mTT tx n) (N + 1) o k (800 * b + ks.length) with
    | .inl e => ∃ s' x, b_284_57 (mjF (D + 10)) 97 (mTT tx n k).2.1 (mjW0 s) = some (none, mjW0 s') ∧ MZ (mTT tx n) b s' e x ∧ x ≤ 4710 ∧ offS b s s'
    | .inr y => ∃ s', b_284_57 (mjF (D + 10)) 97 (mTT tx n k).2.1 (mjW0 s) = bN (mjF (D + 10) 280 [.ref 97, .int (if (mTT tx n k).1 = 15 then 2 else 4), .int (nI (os.length + (hdO (mTT tx n) k).length + y.2.2.2.1.length)), .int (nI (os.length + 1))] (mjW0 s')) (fun hp => some (none, hp)) ∧ MR tx n b s' (y.1 + 1) o [] (os ++ hdO (mTT tx n) k ++ y.2.2.2.1 ++ [(21, (mTT tx n k).2.1, 0, 0, 0)]) (ks ++ y.2.2.1) ∧ MS s' td S ∧ offE b s s' := by
  have hb := h.2.1.1
  have hkN : k < N := by
    rcases hw with e | e
    · exact lt_N hN h0 hk e (by decide)
    · exact lt_N hN h0 hk e (by decide)
  have k1 : ¬ (mTT tx n k).1 = 1 := by rcases hw with e | e <;> rw [e] <;> decide
  have HL := hdO_len (T := mTT tx n) (k := k)
  obtain ⟨s1, e1, a1, r1, f1⟩ := m_order (d := D + 9) h (by omega) 1 (mTT tx n k).2.1 0 0
  have L1 : (os ++ [((1 : Int32), (mTT tx n k).2.1, (0 : Int32), (0 : Int32), (0 : Int64))]).length = os.length + 1 := by rw [List.length_append]; rfl
  have w17 : mjF (D + 10) 266 [.ref 97, .int 13] (mjW0 s) = _ := v_word (d := D + 9) h.at (w := 12) (by decide)
  have p17 : nI (12 + 5) = 17 := rfl
  -- up to next()
  have H : ∃ s2, b_284_57 (mjF (D + 10)) 97 (mTT tx n k).2.1 (mjW0 s) = b_284_94 (mjF (D + 10)) 97 (mTT tx n k).2.1 (if (mTT tx n k).1 = 15 then 0 else 1) (nI (os.length + 1)) (mjW0 s2) ∧ MR tx n b s2 k o W (os ++ hdO (mTT tx n) k) ks ∧ offE b s s2 := by
    unfold b_284_57
    rw [xV_97, w17, bI_s, xV_97, e1, bN_s, xg_97_33, xg_97_63, a1.2.1.2.2.1, xa_122, if_pos (mj_in_nI (by omega) (by decide)), nI_clamp (by omega), a1.2.2.2.1.1, L1, p17]
    by_cases e : (mTT tx n k).1 = 15
    · have n17 : ¬ (mTT tx n k).1 = 17 := by rw [e]; decide
      refine ⟨s1, ?_, ?_, r1⟩
      · rw [if_neg n17, if_pos rfl, if_pos e]
      · unfold hdO
        rw [if_pos e]
        exact a1
    · have e17 : (mTT tx n k).1 = 17 := hw.resolve_left e
      obtain ⟨s2, e2, a2, r2, f2⟩ := m_order (d := D + 9) a1 (by rw [L1]; omega) 2 (mTT tx n k).2.1 0 0
      refine ⟨s2, ?_, ?_, r1.tr r2⟩
      · rw [if_pos e17, if_neg (show ¬ (1 : Int32) = 0 by decide), if_neg e, xV_97, e2, bN_s]
      · unfold hdO
        rw [if_neg e]
        rw [List.append_assoc] at a2
        exact a2
  obtain ⟨s2, E2, a2, r2⟩ := H
  have L2 : (os ++ hdO (mTT tx n) k).length = os.length + (hdO (mTT tx n) k).length := List.length_append
  obtain ⟨s3, e3, a3, r3, f3⟩ := m_next (d := D + 7) a2 k1
  have r13 := r2.tr r3
  have bad : ∀ e x s6, MZ (mTT tx n) b s6 e x → b_284_115 (mjF (D + 10)) 97 (mTT tx n k).2.1 (if (mTT tx n k).1 = 15 then 0 else 1) (nI (os.length + 1)) (mjW0 s6) = some (none, mjW0 s6) := by
    intro e x s6 z
    unfold b_284_115
    rw [xg_97_61, if_neg z.n0]
    unfold b_284_128
    rw [xg_97_61, if_neg z.pos]
  rw [E2]
  unfold b_284_94
  rw [xV_97, e3, bN_s, xV_97]
  unfold pHd
  by_cases h40 : (mTT tx n (k + 1)).1 = 40
  · rw [if_pos h40]
    by_cases h12 : o = 12
    · rw [if_pos h12]
      subst h12
      obtain ⟨s4, e4, z4, r4⟩ := m_opens3 (d := D + 6) a3 (c := 40) (by decide) h40
      refine ⟨s4, _, ?_, z4, by rw [L2]; omega, offS_of (r13.tr r4)⟩
      rw [e4, bN_s, xg_97_61, if_neg z4.n0, bad _ _ _ z4]
    · rw [if_neg h12]
      have hk1 : k + 1 < N := lt_N hN h0 hkN h40 (by decide)
      obtain ⟨s4, e4, a4, r4, f4⟩ := m_opens (d := D + 6) a3 (c := 40) (by decide) h40 (by omega)
      have C := m_E (D := D) h0 hN (show B + 100 ≤ 1500 by omega) (show o + 1 ≤ 12 by omega) (show k + 1 + 1 ≤ N from hk1) (by rw [L2]; omega) (by omega) a4
      have r14 := r13.tr r4
      rw [e4, bN_s, xg_97_61, a4.2.1.2.1, if_pos rfl, xV_97]
      have badE : ∀ e, (∃ s' x, mjF (D + 10) 287 [.ref 97] (mjW0 s4) = some (none, mjW0 s') ∧ MZ (mTT tx n) b s' e x ∧ x ≤ 4700 ∧ offE b s4 s') → ∃ s' x, bN (mjF (D + 10) 287 [.ref 97] (mjW0 s4)) (fun hp4 => b_284_115 (mjF (D + 10)) 97 (mTT tx n k).2.1 (if (mTT tx n k).1 = 15 then 0 else 1) (nI (os.length + 1)) hp4) = some (none, mjW0 s') ∧ MZ (mTT tx n) b s' e x ∧ x ≤ 4710 ∧ offS b s s' := by
        rintro e ⟨s7, x, e7, z7, hx, r7⟩
        refine ⟨s7, x, ?_, z7, by omega, offS_of (r14.tr r7)⟩
        rw [e7, bN_s, bad _ _ _ z7]
      cases hd : prV (mTT tx n) (N + 1) (o + 1) (k + 2) (800 * b + ks.length) with
      | inl e =>
        have C' := C
        rw [show k + 1 + 1 = k + 2 from rfl, hd] at C'
        exact badE e C'
      | inr y =>
        have C' := C
        rw [show k + 1 + 1 = k + 2 from rfl, hd] at C'
        obtain ⟨y1, y2, y3⟩ : lnZ (k + 2) 0 y := prE_len 100 0 _ _ _ y (by omega) hd
        have hyN := (prE_le hN h0 (show o + 1 ≤ 12 by omega) (show k + 2 ≤ N from hk1)).1 (by omega) hd
        have L5 : (os ++ hdO (mTT tx n) k ++ y.2.2.2.1).length = os.length + (hdO (mTT tx n) k).length + y.2.2.2.1.length := by rw [List.length_append, L2]
        by_cases hc : isCmp (mTT tx n y.1).1 = true
        · have n41 : ¬ (mTT tx n y.1).1 = 41 := fun e => by rw [e] at hc; exact absurd hc (by decide)
          simp only [if_neg n41]
          exact badE _ (C'.1 hc)
        · obtain ⟨s5, e5, a5, r5, f5⟩ := C'.2 hc
          by_cases h41 : (mTT tx n y.1).1 = 41
          · simp only [if_pos h41]
            obtain ⟨s6, e6, a6, r6, f6⟩ := m_closes (d := D + 6) a5 (c := 41) (by decide) h41
            obtain ⟨s7, e7, a7, r7, f7⟩ := m_order (d := D + 9) a6 (by rw [L5]; omega) 21 (mTT tx n k).2.1 0 0
            have rr := r14.tr (r5.tr (r6.tr r7))
            refine ⟨s7, ?_, a7, m.off rr, rr⟩
            have L7 : (os ++ hdO (mTT tx n) k ++ y.2.2.2.1 ++ [((21 : Int32), (mTT tx n k).2.1, (0 : Int32), (0 : Int32), (0 : Int64))]).length = os.length + (hdO (mTT tx n) k).length + y.2.2.2.1.length + 1 := by rw [List.length_append, L5]; rfl
            have fin : ∀ q : Int32, b_284_155 (mjF (D + 10)) 97 (nI (os.length + 1)) 97 q (mjW0 s7) = bN (mjF (D + 10) 280 [.ref 97, .int q, .int (nI (os.length + (hdO (mTT tx n) k).length + y.2.2.2.1.length)), .int (nI (os.length + 1))] (mjW0 s7)) (fun hp => some (none, hp)) := by
              intro q
              unfold b_284_155
              rw [xg_97_33, xg_97_63, a7.2.1.2.2.1, xa_122, if_pos (mj_in_nI (by omega) (by decide)), nI_clamp (by omega), a7.2.2.2.1.1, L7, nI_pred, xV_97]
            rw [e5, bN_s]
            unfold b_284_115
            rw [xg_97_61, a5.2.1.2.1, if_pos rfl, xV_97, e6, bN_s]
            unfold b_284_128
            rw [xg_97_61, a6.2.1.2.1, if_pos (show (0 : Int32) ≤ 0 by decide), xV_97, e7, bN_s, fin, fin]
            by_cases e : (mTT tx n k).1 = 15
            · rw [if_pos e, if_pos rfl, if_pos e]
            · rw [if_neg e, if_neg (show ¬ (1 : Int32) = 0 by decide), if_neg e]
          · simp only [if_neg h41]
            have e6 := m_closesB (d := D + 6) a5 (c := 41) (by decide) h41
            have z6 := m_wz a5
            refine ⟨_, _, ?_, z6, by rw [L5]; omega, offS_of (r14.tr (r5.tr (bS_off _ _)))⟩
            rw [e5, bN_s]
            unfold b_284_115
            rw [xg_97_61, a5.2.1.2.1, if_pos rfl, xV_97, e6, bN_s]
            unfold b_284_128
            rw [xg_97_61, if_neg z6.pos]
  · rw [if_neg h40]
    have e4 := m_opens2 (d := D + 6) a3 (c := 40) (by decide) h40
    have z4 := m_wz a3
    refine ⟨_, _, ?_, z4, by rw [L2]; omega, offS_of (r13.tr (bS_off _ _))⟩
    rw [e4, bN_s, xg_97_61, if_neg z4.n0, bad _ _ _ z4]
/-- the block's frame is taken off -/
theorem MS.pop {F : SF} (m : MS s td (S ++ [F])) : MS (uI s 97 (upd (s.1 97) 71 (nI S.length))) td S := by
  obtain ⟨p1, p2, p3⟩ := m
  refine ⟨?_, ?_, fun i f hf => ?_⟩
  · rw [uI_same]; exact (if_neg (by decide)).trans p1
  · rw [uI_same]; exact if_pos rfl
  · rw [uI_ne _ _ _ _ (by decide), uI_ne _ _ _ _ (by decide), uI_ne _ _ _ _ (by decide)]
    refine p3 i f ?_
    have hi := (List.getElem?_eq_some_iff.mp hf).1
    rw [List.getElem?_append_left hi]; exact hf
theorem MS.top {F : SF} (m : MS s td (S ++ [F])) : s.1 148 S.length = F.1 ∧ s.1 149 S.length = F.2.1 ∧ s.1 150 S.length = F.2.2 := by
  refine m.2.2 S.length F ?_
  rw [List.getElem?_append_right (Nat.le_refl _), Nat.sub_self]; rfl
/-- endBlock, up to the question what it ends -/
theorem m_end {F : SF} (h : MR tx n b s k (o + 1) W os ks) (m : MS s td (S ++ [F])) (hS : S.length < 16) (hl : os.length < 4980) (e : (mTT tx n k).1 = 125) : ∃ s', mjF (D + 10) 282 [.ref 97] (mjW0 s) = (if F.1 = 4 then bN (mjF (D + 9) 281 [.ref 97, .int 23, .int (-1), .int F.2.2, .int 0] (mjW0 s')) (fun hp32 => gR hp32 97 12 69 (fun v33 => aI hp32 v33 (nI S.length) (fun v34 => rV hp32 97 12 (bN (mjF (D + 9) 283 [.ref 97, .int v34] hp32) (fun hp35 => some (none, hp35)))))) else if F.1 = 2 then bI (mjF (D + 9) 266 [.ref 97, .int 12] (mjW0 s')) (fun v16 hp17 => (if v16 = 0 then gR hp17 97 12 69 (fun v18 => aI hp17 v18 (nI S.length) (fun v19 => rV hp17 97 12 (bN (mjF (D + 9) 283 [.ref 97, .int v19] hp17) (fun hp20 => some (none, hp20))))) else rV hp17 97 12 (bN (mjF (D + 9) 262 [.ref 97] hp17) (fun hp21 => rV hp21 97 12 (bN (mjF (D + 9) 281 [.ref 97, .int 22, .int (-1), .int 0, .int 0] hp21) (fun hp22 => gR hp22 97 12 69 (fun v23 => aI hp22 v23 (nI S.length) (fun v24 => rV hp22 97 12 (bN (mjF (D + 9) 283 [.ref 97, .int v24] hp22) (fun hp25 => gR hp25 97 12 33 (fun v26 => gI hp25 97 12 63 (fun v27 => aI hp25 v26 v27 (fun v28 => rV hp25 97 12 (bN (mjF (D + 9) 280 [.ref 97, .int 3, .int (v28 - 1), .int (-1)] hp25) (fun hp29 => some (none, hp29)))))))))))))))) else if F.1 = 3 then bN (mjF (D + 9) 283 [.ref 97, .int F.2.1] (mjW0 s')) (fun hp15 => some (none, hp15)) else some (none, mjW0 s')) ∧ MR tx n b s' (k + 1) o W (os ++ [(27, (mTT tx n (k + 1)).2.1, 0, 0, 0)]) ks ∧ MS s' td S ∧ offS b s s' ∧ s'.1 148 S.length = F.1 ∧ s'.1 149 S.length = F.2.1 ∧ s'.1 150 S.length = F.2.2 := by
  obtain ⟨s1, e1, a1, r1, f1⟩ := m_closes (d := D + 5) h (c := 125) (by decide) e
  obtain ⟨s2, e2, a2, r2, f2⟩ := m_order (d := D + 8) a1 (by omega) 27 (mTT tx n (k + 1)).2.1 0 0
  have m2 := m.off (r1.tr r2)
  have t2 := m2.top
  have SL : (S ++ [F]).length = S.length + 1 := by rw [List.length_append]; rfl
  obtain ⟨t3, h3⟩ : ∃ t, t = uI s2 97 (upd (s2.1 97) 71 (nI S.length)) := ⟨_, rfl⟩
  have m3 : MS t3 td S := by rw [h3]; exact m2.pop
  have a3 : MR tx n b t3 (k + 1) o W (os ++ [(27, (mTT tx n (k + 1)).2.1, 0, 0, 0)]) ks := by rw [h3]; exact a2.w97 (by omega)
  have o3 : offS b s2 t3 := by rw [h3]; exact offG.w (by unfold chS; omega)
  have g3 : t3.1 148 S.length = F.1 ∧ t3.1 149 S.length = F.2.1 ∧ t3.1 150 S.length = F.2.2 := by
    rw [h3, uI_ne _ _ _ _ (by decide), uI_ne _ _ _ _ (by decide), uI_ne _ _ _ _ (by decide)]; exact t2
  refine ⟨t3, ?_, a3, m3, (offS_of (r1.tr r2)).tr o3, g3⟩
  rw [e_282]
  unfold f_282 b_282_0
  have nn : nI (S ++ [F]).length - 1 = nI S.length := by rw [SL, nI_pred]
  rw [xV_97, e1, bN_s, xg_97_4, a1.at.2.2.1, xV_97, e2, bN_s, xg_97_71, m2.2.1, nn, xp_97_71, ← h3, xg_97_71, m3.2.1, xg_97_68, xa_148, if_pos (mj_in_nI (by omega) (by decide)), nI_clamp (by omega), g3.1]
  by_cases e4 : F.1 = 4
  · rw [if_pos e4, if_pos e4, xg_97_70, xa_150, if_pos (mj_in_nI (by omega) (by decide)), nI_clamp (by omega), g3.2.2, xV_97]
  · rw [if_neg e4, if_neg e4, xg_97_68, xa_148, if_pos (mj_in_nI (by omega) (by decide)), nI_clamp (by omega), g3.1]
    by_cases e5 : F.1 = 2
    · rw [if_pos e5, if_pos e5, xV_97]
    · rw [if_neg e5, if_neg e5, xg_97_68, xa_148, if_pos (mj_in_nI (by omega) (by decide)), nI_clamp (by omega), g3.1]
      by_cases e6 : F.1 = 3
      · rw [if_pos e6, if_pos e6, xg_97_69, xa_149, if_pos (mj_in_nI (by omega) (by decide)), nI_clamp (by omega), g3.2.1, xV_97]
      · rw [if_neg e6, if_neg e6]
/-- a plain block or a body ends -/
theorem m_end1 {F : SF} (h : MR tx n b s k (o + 1) W os ks) (m : MS s td (S ++ [F])) (hS : S.length < 16) (hl : os.length < 4980) (e : (mTT tx n k).1 = 125) (hF : F.1 = 0 ∨ F.1 = 1) : ∃ s', mjF (D + 10) 282 [.ref 97] (mjW0 s) = some (none, mjW0 s') ∧ MR tx n b s' (k + 1) o W (os ++ [(27, (mTT tx n (k + 1)).2.1, 0, 0, 0)]) ks ∧ MS s' td S ∧ offS b s s' := by
  obtain ⟨s1, e1, a1, m1, r1, g1⟩ := m_end (D := D) h m hS hl e
  refine ⟨s1, ?_, a1, m1, r1⟩
  have q : ¬ F.1 = 4 ∧ ¬ F.1 = 2 ∧ ¬ F.1 = 3 := by rcases hF with q | q <;> rw [q] <;> decide
  rw [e1, if_neg q.1, if_neg q.2.1, if_neg q.2.2]
/-- toHere over an order -/
theorem set_mid : ∀ (A C : List Row) (r x : Row), (A ++ r :: C).set A.length x = A ++ x :: C
  | [], _, _, _ => rfl
  | a :: t, C, r, x => by
    show a :: ((t ++ r :: C).set t.length x) = _
    rw [set_mid t C r x]; rfl
theorem get_mid : ∀ (A C : List Row) (r : Row), (A ++ r :: C)[A.length]? = some r
  | [], _, _ => rfl
  | a :: t, C, r => by
    show (t ++ r :: C)[t.length]? = _
    exact get_mid t C r
theorem m_here2 {A C : List Row} {w p v x : Int32} {y : Int64} (h : MR tx n b s k o W (A ++ (w, p, v, x, y) :: C) ks) (hl : (A ++ (w, p, v, x, y) :: C).length < 4990) : ∃ s', mjF (D + 1) 283 [.ref 97, .int (nI A.length)] (mjW0 s) = some (none, mjW0 s') ∧ MR tx n b s' k o W (A ++ (w, p, nI (A ++ (w, p, v, x, y) :: C).length, x, y) :: C) ks ∧ offE b s s' := by
  obtain ⟨s1, e1, a1, r1⟩ := m_here (d := D) h hl (get_mid A C _)
  rw [set_mid] at a1
  exact ⟨s1, e1, a1, r1⟩
/-- a while's block ends -/
theorem m_end4 {A C : List Row} {p z : Int32} (h : MR tx n b s k (o + 1) W (A ++ (21, p, 0, 0, 0) :: C) ks) (m : MS s td (S ++ [(4, nI A.length, z)])) (hS : S.length < 16) (hl : A.length + C.length < 4970) (e : (mTT tx n k).1 = 125) : ∃ s', mjF (D + 10) 282 [.ref 97] (mjW0 s) = some (none, mjW0 s') ∧ MR tx n b s' (k + 1) o W (A ++ (21, p, nI (A.length + C.length + 3), 0, 0) :: (C ++ [(27, (mTT tx n (k + 1)).2.1, 0, 0, 0), (23, -1, z, 0, 0)])) ks ∧ MS s' td S ∧ offS b s s' := by
  have LA : (A ++ ((21 : Int32), p, (0 : Int32), (0 : Int32), (0 : Int64)) :: C).length = A.length + (C.length + 1) := by rw [List.length_append]; rfl
  obtain ⟨s1, e1, a1, m1, r1, g1⟩ := m_end (D := D) h m hS (by omega) e
  obtain ⟨s2, e2, a2, r2, f2⟩ := m_order (d := D + 8) a1 (by rw [List.length_append, LA]; show _ + 1 < _; omega) 23 (-1) z 0
  have a2' : MR tx n b s2 (k + 1) o W (A ++ (21, p, 0, 0, 0) :: (C ++ [(27, (mTT tx n (k + 1)).2.1, 0, 0, 0), (23, -1, z, 0, 0)])) ks := by
    rw [List.append_assoc, List.append_assoc, List.cons_append] at a2
    exact a2
  have LB : (A ++ ((21 : Int32), p, (0 : Int32), (0 : Int32), (0 : Int64)) :: (C ++ [((27 : Int32), (mTT tx n (k + 1)).2.1, (0 : Int32), (0 : Int32), (0 : Int64)), (23, -1, z, 0, 0)])).length = A.length + C.length + 3 := by
    simp only [List.length_append, List.length_cons, List.length_nil]; omega
  obtain ⟨s3, e3, a3, r3⟩ := m_here2 (D := D + 8) a2' (by rw [LB]; omega)
  rw [LB] at a3
  have q2 : s2.1 149 S.length = nI A.length := by
    rw [r2.1 149 _ (by unfold chE; omega)]; exact g1.2.1
  refine ⟨s3, ?_, a3, m1.off (r2.tr r3), r1.tr (offS_of (r2.tr r3))⟩
  rw [e1, if_pos rfl, e2, bN_s, xg_97_69, xa_149, if_pos (mj_in_nI (by omega) (by decide)), nI_clamp (by omega), q2, xV_97, e3, bN_s]
/-- an if's block ends, no else -/
theorem m_end2 {A C : List Row} {p z : Int32} (h : MR tx n b s k (o + 1) W (A ++ (21, p, 0, 0, 0) :: C) ks) (m : MS s td (S ++ [(2, nI A.length, z)])) (hS : S.length < 16) (hl : A.length + C.length < 4970) (e : (mTT tx n k).1 = 125) (h16 : ¬ (mTT tx n (k + 1)).1 = 16) : ∃ s', mjF (D + 10) 282 [.ref 97] (mjW0 s) = some (none, mjW0 s') ∧ MR tx n b s' (k + 1) o W (A ++ (21, p, nI (A.length + C.length + 2), 0, 0) :: (C ++ [(27, (mTT tx n (k + 1)).2.1, 0, 0, 0)])) ks ∧ MS s' td S ∧ offS b s s' := by
  have LA : (A ++ ((21 : Int32), p, (0 : Int32), (0 : Int32), (0 : Int64)) :: C).length = A.length + (C.length + 1) := by rw [List.length_append]; rfl
  obtain ⟨s1, e1, a1, m1, r1, g1⟩ := m_end (D := D) h m hS (by omega) e
  have a2' : MR tx n b s1 (k + 1) o W (A ++ (21, p, 0, 0, 0) :: (C ++ [(27, (mTT tx n (k + 1)).2.1, 0, 0, 0)])) ks := by
    rw [List.append_assoc, List.cons_append] at a1
    exact a1
  have LB : (A ++ ((21 : Int32), p, (0 : Int32), (0 : Int32), (0 : Int64)) :: (C ++ [((27 : Int32), (mTT tx n (k + 1)).2.1, (0 : Int32), (0 : Int32), (0 : Int64))])).length = A.length + C.length + 2 := by
    simp only [List.length_append, List.length_cons, List.length_nil]; omega
  obtain ⟨s3, e3, a3, r3⟩ := m_here2 (D := D + 8) a2' (by rw [LB]; omega)
  rw [LB] at a3
  have w16 : mjF (D + 9) 266 [.ref 97, .int 12] (mjW0 s1) = _ := v_word (d := D + 8) a1.at (w := 11) (by decide)
  refine ⟨s3, ?_, a3, m1.off r3, r1.tr (offS_of r3)⟩
  rw [e1, if_neg (show ¬ (2 : Int32) = 4 by decide), if_pos rfl, w16, bI_s, i01, if_neg (show ¬ (mTT tx n (k + 1)).1 = nI (11 + 5) from h16), xg_97_69, xa_149, if_pos (mj_in_nI (by omega) (by decide)), nI_clamp (by omega), g1.2.1, xV_97, e3, bN_s]
/-- an if's block ends, else -/
theorem m_end2e {A C : List Row} {p z : Int32} (h : MR tx n b s k (o + 1) W (A ++ (21, p, 0, 0, 0) :: C) ks) (m : MS s td (S ++ [(2, nI A.length, z)])) (hS : S.length < 16) (hl : A.length + C.length < 4970) (e : (mTT tx n k).1 = 125) (h16 : (mTT tx n (k + 1)).1 = 16) : ∃ s', mjF (D + 10) 282 [.ref 97] (mjW0 s) = bN (mjF (D + 9) 280 [.ref 97, .int 3, .int (nI (A.length + C.length + 2)), .int (-1)] (mjW0 s')) (fun hp => some (none, hp)) ∧ MR tx n b s' (k + 2) o W (A ++ (21, p, nI (A.length + C.length + 3), 0, 0) :: (C ++ [(27, (mTT tx n (k + 1)).2.1, 0, 0, 0), (22, -1, 0, 0, 0)])) ks ∧ MS s' td S ∧ offS b s s' := by
  have hb := h.2.1.1
  have LA : (A ++ ((21 : Int32), p, (0 : Int32), (0 : Int32), (0 : Int64)) :: C).length = A.length + (C.length + 1) := by rw [List.length_append]; rfl
  obtain ⟨s1, e1, a1, m1, r1, g1⟩ := m_end (D := D) h m hS (by omega) e
  obtain ⟨s2, e2, a2, r2, f2⟩ := m_next (d := D + 6) a1 (by rw [h16]; decide)
  obtain ⟨s3, e3, a3, r3, f3⟩ := m_order (d := D + 8) a2 (by rw [List.length_append, LA]; show _ + 1 < _; omega) 22 (-1) 0 0
  have a3' : MR tx n b s3 (k + 2) o W (A ++ (21, p, 0, 0, 0) :: (C ++ [(27, (mTT tx n (k + 1)).2.1, 0, 0, 0), (22, -1, 0, 0, 0)])) ks := by
    rw [List.append_assoc, List.append_assoc, List.cons_append] at a3
    exact a3
  have LB : ∀ v : Int32, (A ++ ((21 : Int32), p, v, (0 : Int32), (0 : Int64)) :: (C ++ [((27 : Int32), (mTT tx n (k + 1)).2.1, (0 : Int32), (0 : Int32), (0 : Int64)), (22, -1, 0, 0, 0)])).length = A.length + C.length + 3 := by
    intro v; simp only [List.length_append, List.length_cons, List.length_nil]; omega
  obtain ⟨s4, e4, a4, r4⟩ := m_here2 (D := D + 8) a3' (by rw [LB]; omega)
  rw [LB] at a4
  have r23 := r2.tr r3
  have q3 : s3.1 149 S.length = nI A.length := by
    rw [r23.1 149 _ (by unfold chE; omega)]; exact g1.2.1
  have w16 : mjF (D + 9) 266 [.ref 97, .int 12] (mjW0 s1) = _ := v_word (d := D + 8) a1.at (w := 11) (by decide)
  refine ⟨s4, ?_, a4, m1.off (r23.tr r4), r1.tr (offS_of (r23.tr r4))⟩
  have nn : nI (A.length + C.length + 3) - 1 = nI (A.length + C.length + 2) := nI_pred _
  rw [e1, if_neg (show ¬ (2 : Int32) = 4 by decide), if_pos rfl, w16, bI_s, i01, if_pos (show (mTT tx n (k + 1)).1 = nI (11 + 5) from h16), xV_97, e2, bN_s, xV_97, e3, bN_s, xg_97_69, xa_149, if_pos (mj_in_nI (by omega) (by decide)), nI_clamp (by omega), q3, xV_97, e4, bN_s, xg_97_33, xg_97_63, a4.2.1.2.2.1, xa_122, if_pos (mj_in_nI (by omega) (by decide)), nI_clamp (by omega), a4.2.2.2.1.1, LB, nn, xV_97]
/-- an else's block ends -/
theorem m_end3 {A C : List Row} {z : Int32} (h : MR tx n b s k (o + 1) W (A ++ (22, -1, 0, 0, 0) :: C) ks) (m : MS s td (S ++ [(3, nI A.length, z)])) (hS : S.length < 16) (hl : A.length + C.length < 4970) (e : (mTT tx n k).1 = 125) : ∃ s', mjF (D + 10) 282 [.ref 97] (mjW0 s) = some (none, mjW0 s') ∧ MR tx n b s' (k + 1) o W (A ++ (22, -1, nI (A.length + C.length + 2), 0, 0) :: (C ++ [(27, (mTT tx n (k + 1)).2.1, 0, 0, 0)])) ks ∧ MS s' td S ∧ offS b s s' := by
  have LA : (A ++ ((22 : Int32), (-1 : Int32), (0 : Int32), (0 : Int32), (0 : Int64)) :: C).length = A.length + (C.length + 1) := by rw [List.length_append]; rfl
  obtain ⟨s1, e1, a1, m1, r1, g1⟩ := m_end (D := D) h m hS (by omega) e
  have a2' : MR tx n b s1 (k + 1) o W (A ++ (22, -1, 0, 0, 0) :: (C ++ [(27, (mTT tx n (k + 1)).2.1, 0, 0, 0)])) ks := by
    rw [List.append_assoc, List.cons_append] at a1
    exact a1
  have LB : (A ++ ((22 : Int32), (-1 : Int32), (0 : Int32), (0 : Int32), (0 : Int64)) :: (C ++ [((27 : Int32), (mTT tx n (k + 1)).2.1, (0 : Int32), (0 : Int32), (0 : Int64))])).length = A.length + C.length + 2 := by
    simp only [List.length_append, List.length_cons, List.length_nil]; omega
  obtain ⟨s3, e3, a3, r3⟩ := m_here2 (D := D + 8) a2' (by rw [LB]; omega)
  rw [LB] at a3
  refine ⟨s3, ?_, a3, m1.off r3, r1.tr (offS_of r3)⟩
  rw [e1, if_neg (show ¬ (3 : Int32) = 4 by decide), if_neg (show ¬ (3 : Int32) = 2 by decide), if_pos rfl, e3, bN_s]
end MJ89
end
section
/-! ===== the reference: STATEMENTS ===== -/
/-- readBody's loop -/
noncomputable def lB (D m : Nat) (s : mjSt3) : mjU := L_279_12 (mjF (D + 12)) m 97 (mjW0 s)
theorem L279_S (R : mjR) (m : Nat) (a : Nat) (hp : mjH) : L_279_12 R (m + 1) a hp = b_279_12 R (L_279_12 R m) a hp := rfl
/-- the loop ends bad -/
def FB (T : TT) (b D N : Nat) (s : mjSt3) (k : Nat) (e : Nat × Nat) : Prop := ∃ s' j x, (∀ m, lB D (m + j) s = some (none, mjW0 s')) ∧ j ≤ N + 5 - k ∧ MZ T b s' e x ∧ x ≤ 4720 ∧ offS b s s'
/-- what is read is small -/
def bB (N k : Nat) (z : PB) : Prop := k < z.1 ∧ z.1 ≤ N ∧ 6 * z.2.2.2.1.length ≤ 7 * (z.1 - k) ∧ 4 * z.2.2.1.length ≤ z.1 - k ∧ z.2.1 ≤ 16
/-- behind a STATEMENT, the loop -/
def gB (tx : Nat → Int32) (n b D N : Nat) (s : mjSt3) (k o : Nat) (os : List Row) (ks : List Nat) (S : List SF) (r : PY) : Prop := match r with
  | .inl e => FB (mTT tx n) b D N s k e
  | .inr z => bB N k z ∧ ∃ s' j W', (∀ m, lB D (m + j) s = lB D m s') ∧ j + k ≤ z.1 ∧ MR tx n b s' z.1 o W' (os ++ z.2.2.2.1) (ks ++ z.2.2.1) ∧ MS s' z.2.1 S ∧ offS b s s'
/-- a BLOCK up to its } -/
def pIn (T : TT) (M : Nat) (rd : Nat → Nat → Nat → Nat → PY) (o c td kq i0 : Nat) : PY :=
  if (T c).1 = 123 then (if o = 12 then .inl (3, c) else (match pSeq T rd kq i0 M (c + 1, td, [], [(26, (T (c + 1)).2.1, 0, 0, 0)], []) with
    | .inl e => .inl e
    | .inr z => if (T z.1).1 = 125 then .inr z else .inl (F2 T z.1)))
  else .inl (F2 T c)
theorem pBlk_in (T : TT) (M : Nat) (rd : Nat → Nat → Nat → Nat → PY) (o c td kq i0 : Nat) : pBlk T M rd o c td kq i0 = (match pIn T M rd o c td kq i0 with
    | .inl e => .inl e
    | .inr z => .inr (z.1 + 1, z.2.1, z.2.2.1, z.2.2.2.1 ++ [(27, (T (z.1 + 1)).2.1, 0, 0, 0)], z.2.2.2.2)) := by
  unfold pBlk pIn
  by_cases h : (T c).1 = 123
  · rw [if_pos h, if_pos h]
    by_cases h2 : o = 12
    · rw [if_pos h2, if_pos h2]
    · rw [if_neg h2, if_neg h2]
      cases pSeq T rd kq i0 M (c + 1, td, [], [(26, (T (c + 1)).2.1, 0, 0, 0)], []) with
      | inl e => rfl
      | inr z =>
        by_cases h3 : (T z.1).1 = 125
        · simp only [if_pos h3]
        · simp only [if_neg h3]
  · rw [if_neg h, if_neg h]
section MJ90
variable {tx : Nat → Int32} {n b D k o td N : Nat} {s : mjSt3} {W : List WF} {os : List Row} {ks : List Nat} {S : List SF}
theorem lB_bad {T : TT} {e : Nat × Nat} {x : Nat} (z : MZ T b s e x) (m : Nat) : lB D (m + 1) s = some (none, mjW0 s) := by
  unfold lB
  rw [L279_S]
  unfold b_279_12 b_279_49
  rw [xg_97_61, if_neg z.n0, xg_97_61, if_neg z.n0]
theorem lB_step (h : MR tx n b s k o W os ks) (m : MS s td S) (h1 : 1 ≤ S.length) (h2 : S.length ≤ 16) (q : Nat) : lB D (q + 1) s = if (mTT tx n k).1 = 125 then bN (mjF (D + 12) 282 [.ref 97] (mjW0 s)) (fun hp => L_279_12 (mjF (D + 12)) q 97 hp) else bN (mjF (D + 12) 284 [.ref 97] (mjW0 s)) (fun hp => L_279_12 (mjF (D + 12)) q 97 hp) := by
  unfold lB
  rw [L279_S]
  unfold b_279_12
  rw [xg_97_61, h.2.1.2.1, if_pos rfl, xg_97_71, m.2.1, if_neg (nI_nle (by omega) (by omega)), xV_97, v_sign h.at (c := 125) (by decide), bI_s, i01, xV_97, xV_97]
theorem FB.via {T : TT} {s1 : mjSt3} {k1 j : Nat} {e : Nat × Nat} (h : FB T b D N s1 k1 e) (hr : ∀ m, lB D (m + j) s = lB D m s1) (ho : offS b s s1) (hj : j + k ≤ k1) (hk : k1 ≤ N) : FB T b D N s k e := by
  obtain ⟨s', j', x, a1, a2, a3, a4, a5⟩ := h
  refine ⟨s', j' + j, x, fun m => ?_, by omega, a3, a4, ho.tr a5⟩
  rw [show m + (j' + j) = (m + j') + j by omega, hr, a1]
/-- a round that ends bad -/
theorem FB.one {T : TT} {s1 : mjSt3} {e : Nat × Nat} {x : Nat} (hr : ∀ m, lB D (m + 1) s = lB D m s1) (hk : k ≤ N) (z : MZ T b s1 e x) (hx : x ≤ 4720) (ho : offS b s s1) : FB T b D N s k e :=
  ⟨s1, 2, x, fun m => by rw [show m + 2 = (m + 1) + 1 by omega, hr, lB_bad z], by omega, z, hx, ho⟩
/-- readStep: which -/
theorem st_disp (h : MR tx n b s k o W os ks) : mjF (D + 12) 284 [.ref 97] (mjW0 s) = if (mTT tx n k).1 = 123 then bN (mjF (D + 11) 280 [.ref 97, .int 1, .int (-1), .int (-1)] (mjW0 s)) (fun hp => some (none, hp)) else if tyS (mTT tx n k).1 = true then bN (mjF (D + 11) 285 [.ref 97, .int (mTT tx n k).2.1] (mjW0 s)) (fun hp => some (none, hp)) else if (mTT tx n k).1 = 15 ∨ (mTT tx n k).1 = 17 then b_284_57 (mjF (D + 11)) 97 (mTT tx n k).2.1 (mjW0 s) else if (mTT tx n k).1 = 18 then b_284_207 (mjF (D + 11)) 97 (mTT tx n k).2.1 28 (mjW0 s) else if (mTT tx n k).1 = 19 then b_284_207 (mjF (D + 11)) 97 (mTT tx n k).2.1 24 (mjW0 s) else bN (mjF (D + 11) 298 [.ref 97, .int (mTT tx n k).2.1] (mjW0 s)) (fun hp => some (none, hp)) := by
  have A := h.at
  have w11 : mjF (D + 11) 266 [.ref 97, .int 11] (mjW0 s) = _ := v_word (d := D + 10) A (w := 10) (by decide)
  have w13 : mjF (D + 11) 266 [.ref 97, .int 13] (mjW0 s) = _ := v_word (d := D + 10) A (w := 12) (by decide)
  have w14 : mjF (D + 11) 266 [.ref 97, .int 14] (mjW0 s) = _ := v_word (d := D + 10) A (w := 13) (by decide)
  have w15 : mjF (D + 11) 266 [.ref 97, .int 15] (mjW0 s) = _ := v_word (d := D + 10) A (w := 14) (by decide)
  rw [show nI (10 + 5) = 15 from rfl] at w11
  rw [show nI (12 + 5) = 17 from rfl] at w13
  rw [show nI (13 + 5) = 18 from rfl] at w14
  rw [show nI (14 + 5) = 19 from rfl] at w15
  rw [e_284]
  unfold f_284 b_284_0
  rw [xg_97_4, A.2.2.1, xV_97, v_sign A (c := 123) (by decide), bI_s, i01]
  by_cases h123 : (mTT tx n k).1 = 123
  · rw [if_pos h123, if_pos h123, xV_97]
  rw [if_neg h123, if_neg h123, xV_97, v_type A, bI_s, i01]
  by_cases ht : tyS (mTT tx n k).1 = true
  · rw [if_pos ht, if_pos ht, xV_97]
  rw [if_neg ht, if_neg ht, xV_97, w11, bI_s, i01]
  by_cases h15 : (mTT tx n k).1 = 15
  · rw [if_pos h15, if_pos (Or.inl h15)]
  rw [if_neg h15, xV_97, w13, bI_s, i01]
  by_cases h17 : (mTT tx n k).1 = 17
  · rw [if_pos h17, if_pos (Or.inr h17)]
  rw [if_neg h17, if_neg (fun q => q.elim h15 h17), xV_97, w14, bI_s, i01]
  by_cases h18 : (mTT tx n k).1 = 18
  · have n19 : ¬ (mTT tx n k).1 = 19 := by rw [h18]; decide
    rw [if_pos h18, if_pos h18]
    unfold b_284_191
    rw [xV_97, w15, bI_s, i01, if_neg n19]
  rw [if_neg h18, if_neg h18, xV_97, w15, bI_s, i01]
  by_cases h19 : (mTT tx n k).1 = 19
  · rw [if_pos h19, if_pos h19]
    unfold b_284_191
    rw [xV_97, w15, bI_s, i01, if_pos h19]
  rw [if_neg h19, if_neg h19, xV_97]
/-- a STATEMENT of one round -/
theorem gB_of {u : mjU} {r : PY} (hk : k ≤ N) (hu : ∀ m, lB D (m + 1) s = bN u (fun hp => L_279_12 (mjF (D + 12)) m 97 hp)) (g : gSt tx n b s u o os ks S r) (hz : ∀ z, r = .inr z → bB N k z) : gB tx n b D N s k o os ks S r := by
  cases r with
  | inl e =>
    obtain ⟨s1, x, e1, z1, hx, r1⟩ := g
    have R : FB (mTT tx n) b D N s k e := FB.one (fun m => by rw [hu, e1, bN_s]; rfl) hk z1 (by omega) r1
    exact R
  | inr z =>
    obtain ⟨s1, W1, e1, a1, m1, r1⟩ := g
    have B := hz z rfl
    exact ⟨B, s1, 1, W1, fun m => by rw [hu, e1, bN_s]; rfl, by have := B.1; omega, a1, m1, r1⟩
/-- STATEMENTS up to a } -/
theorem seq_ok {rd : Nat → Nat → Nat → Nat → PY} {os0 : List Row} {ks0 : List Nat} (h1 : 1 ≤ S.length) (h2 : S.length ≤ 16) (h0 : (mTT tx n N).1 = 0) (hrd : ∀ (k : Nat) (s : mjSt3) (W : List WF) (os : List Row) (ks : List Nat) (td : Nat), k ≤ N → 6 * os.length ≤ 7 * k → 4 * ks.length ≤ k → td ≤ 16 → MR tx n b s k o W os ks → MS s td S → ¬ (mTT tx n k).1 = 125 → gB tx n b D N s k o os ks S (rd k td (800 * b + ks.length) os.length)) : ∀ (q : Nat) (z : PB) (s : mjSt3) (W : List WF), N + 1 ≤ q + z.1 → z.1 ≤ N → 6 * (os0 ++ z.2.2.2.1).length ≤ 7 * z.1 → 4 * (ks0 ++ z.2.2.1).length ≤ z.1 → z.2.1 ≤ 16 → MR tx n b s z.1 o W (os0 ++ z.2.2.2.1) (ks0 ++ z.2.2.1) → MS s z.2.1 S → match pSeq (mTT tx n) rd (800 * b + ks0.length) os0.length q z with
    | .inl e => FB (mTT tx n) b D N s z.1 e
    | .inr y => (mTT tx n y.1).1 = 125 ∧ z.1 ≤ y.1 ∧ y.1 < N ∧ 6 * y.2.2.2.1.length ≤ 6 * z.2.2.2.1.length + 7 * (y.1 - z.1) ∧ 4 * y.2.2.1.length ≤ 4 * z.2.2.1.length + (y.1 - z.1) ∧ y.2.1 ≤ 16 ∧ ∃ s' j W', (∀ m, lB D (m + j) s = lB D m s') ∧ j + z.1 ≤ y.1 ∧ MR tx n b s' y.1 o W' (os0 ++ y.2.2.2.1) (ks0 ++ y.2.2.1) ∧ MS s' y.2.1 S ∧ offS b s s'
  | 0, z, s, W, hq, hz, _, _, _, _, _ => by omega
  | q + 1, z, s, W, hq, hz, hos, hks, htd, a, m => by
    unfold pSeq
    by_cases h125 : (mTT tx n z.1).1 = 125
    · rw [if_pos h125]
      have hl : z.1 < N := by
        rcases Nat.lt_or_ge z.1 N with g | g
        · exact g
        · have : z.1 = N := by omega
          rw [this, h0] at h125; exact absurd h125 (by decide)
      exact ⟨h125, Nat.le_refl _, hl, by omega, by omega, htd, s, 0, W, fun m => rfl, by omega, a, m, offG.rf⟩
    · rw [if_neg h125]
      have C := hrd z.1 s W _ _ z.2.1 hz hos hks htd a m h125
      rw [List.length_append, List.length_append, ← Nat.add_assoc] at C
      cases hd : rd z.1 z.2.1 (800 * b + ks0.length + z.2.2.1.length) (os0.length + z.2.2.2.1.length) with
      | inl e =>
        rw [hd] at C
        exact C
      | inr y =>
        rw [hd] at C
        obtain ⟨⟨b1, b2, b3, b4, b5⟩, s1, j1, W1, c1, c2, c3, c4, c5⟩ := C
        rw [List.append_assoc, List.append_assoc] at c3
        rw [List.length_append] at hos hks
        have I := seq_ok h1 h2 h0 hrd q (y.1, y.2.1, z.2.2.1 ++ y.2.2.1, z.2.2.2.1 ++ y.2.2.2.1, z.2.2.2.2 ++ y.2.2.2.2) s1 W1 (by show N + 1 ≤ q + y.1; omega) b2 (by show 6 * (os0 ++ (z.2.2.2.1 ++ y.2.2.2.1)).length ≤ 7 * y.1; rw [List.length_append, List.length_append]; omega) (by show 4 * (ks0 ++ (z.2.2.1 ++ y.2.2.1)).length ≤ y.1; rw [List.length_append, List.length_append]; omega) b5 c3 c4
        show match pSeq (mTT tx n) rd (800 * b + ks0.length) os0.length q (y.1, y.2.1, z.2.2.1 ++ y.2.2.1, z.2.2.2.1 ++ y.2.2.2.1, z.2.2.2.2 ++ y.2.2.2.2) with
          | .inl e => FB (mTT tx n) b D N s z.1 e
          | .inr y => (mTT tx n y.1).1 = 125 ∧ z.1 ≤ y.1 ∧ y.1 < N ∧ 6 * y.2.2.2.1.length ≤ 6 * z.2.2.2.1.length + 7 * (y.1 - z.1) ∧ 4 * y.2.2.1.length ≤ 4 * z.2.2.1.length + (y.1 - z.1) ∧ y.2.1 ≤ 16 ∧ ∃ s' j W', (∀ m, lB D (m + j) s = lB D m s') ∧ j + z.1 ≤ y.1 ∧ MR tx n b s' y.1 o W' (os0 ++ y.2.2.2.1) (ks0 ++ y.2.2.1) ∧ MS s' y.2.1 S ∧ offS b s s'
        cases hs : pSeq (mTT tx n) rd (800 * b + ks0.length) os0.length q (y.1, y.2.1, z.2.2.1 ++ y.2.2.1, z.2.2.2.1 ++ y.2.2.2.1, z.2.2.2.2 ++ y.2.2.2.2) with
        | inl e =>
          rw [hs] at I
          have I' : FB (mTT tx n) b D N s1 y.1 e := I
          have R : FB (mTT tx n) b D N s z.1 e := I'.via c1 c5 c2 b2
          exact R
        | inr w =>
          rw [hs] at I
          obtain ⟨d1, d2, d3, d4, d5, d6, s2, j2, W2, g1, g2, g3, g4, g5⟩ := I
          have d2' : y.1 ≤ w.1 := d2
          have d4' : 6 * w.2.2.2.1.length ≤ 6 * (z.2.2.2.1 ++ y.2.2.2.1).length + 7 * (w.1 - y.1) := d4
          have d5' : 4 * w.2.2.1.length ≤ 4 * (z.2.2.1 ++ y.2.2.1).length + (w.1 - y.1) := d5
          have g2' : j2 + y.1 ≤ w.1 := g2
          rw [List.length_append] at d4' d5'
          refine ⟨d1, by omega, d3, by omega, by omega, d6, s2, j2 + j1, W2, fun m => ?_, by omega, g3, g4, c5.tr g5⟩
          rw [show m + (j2 + j1) = (m + j2) + j1 by omega, c1, g1]
/-- a BLOCK up to its } -/
theorem blk_ok {d : Nat} {rd : Nat → Nat → Nat → Nat → PY} (F : SF) (hS : S.length < 16) (h0 : (mTT tx n N).1 = 0) (hN : N ≤ 3000) (hrd : o < 12 → ∀ (k : Nat) (s : mjSt3) (W : List WF) (os : List Row) (ks : List Nat) (td : Nat), k ≤ N → 6 * os.length ≤ 7 * k → 4 * ks.length ≤ k → td ≤ 16 → MR tx n b s k (o + 1) W os ks → MS s td (S ++ [F]) → ¬ (mTT tx n k).1 = 125 → gB tx n b D N s k (o + 1) os ks (S ++ [F]) (rd k td (800 * b + ks.length) os.length)) (ho : o ≤ 12) (hk : k ≤ N) (hos : 6 * os.length ≤ 7 * k) (hks : 4 * ks.length ≤ k) (htd : td ≤ 16) (a : MR tx n b s k o W os ks) (m : MS s td S) : match pIn (mTT tx n) (N + 1) rd o k td (800 * b + ks.length) os.length with
    | .inl e => ∃ t s' j x, mjF (d + 6) 280 [.ref 97, .int F.1, .int F.2.1, .int F.2.2] (mjW0 s) = some (none, mjW0 t) ∧ (∀ m, lB D (m + j) t = some (none, mjW0 s')) ∧ j ≤ N + 4 - k ∧ MZ (mTT tx n) b s' e x ∧ x ≤ 4720 ∧ offS b s s'
    | .inr z => (mTT tx n z.1).1 = 125 ∧ k + 1 ≤ z.1 ∧ z.1 < N ∧ 6 * z.2.2.2.1.length ≤ 6 + 7 * (z.1 - (k + 1)) ∧ 4 * z.2.2.1.length ≤ z.1 - (k + 1) ∧ z.2.1 ≤ 16 ∧ ∃ t s' j W', mjF (d + 6) 280 [.ref 97, .int F.1, .int F.2.1, .int F.2.2] (mjW0 s) = some (none, mjW0 t) ∧ (∀ m, lB D (m + j) t = lB D m s') ∧ j + k + 1 ≤ z.1 ∧ MR tx n b s' z.1 (o + 1) W' (os ++ z.2.2.2.1) (ks ++ z.2.2.1) ∧ MS s' z.2.1 (S ++ [F]) ∧ offS b s s' := by
  obtain ⟨p1, p2, p3⟩ := m_begin (d := d) a m hS (by omega) F.1 F.2.1 F.2.2
  unfold pIn
  by_cases h123 : (mTT tx n k).1 = 123
  · rw [if_pos h123]
    have hkN : k < N := lt_N hN h0 hk h123 (by decide)
    by_cases h12 : o = 12
    · rw [if_pos h12]
      obtain ⟨s1, e1, z1, r1⟩ := p2 h123 h12
      exact ⟨s1, s1, 1, _, e1, fun m => lB_bad z1 m, by omega, z1, by omega, r1⟩
    · rw [if_neg h12]
      obtain ⟨s1, e1, a1, m1, r1⟩ := p1 h123 (by omega)
      have SL : (S ++ [F]).length = S.length + 1 := by rw [List.length_append]; rfl
      have I := seq_ok (o := o + 1) (D := D) (os0 := os) (ks0 := ks) (S := S ++ [F]) (by omega) (by omega) h0 (hrd (by omega)) (N + 1) (k + 1, td, [], [(26, (mTT tx n (k + 1)).2.1, 0, 0, 0)], []) s1 W (by show N + 1 ≤ N + 1 + (k + 1); omega) (show k + 1 ≤ N from hkN) (by show 6 * (os ++ [_]).length ≤ 7 * (k + 1); rw [List.length_append]; show 6 * (os.length + 1) ≤ _; omega) (by show 4 * (ks ++ []).length ≤ k + 1; rw [List.append_nil]; omega) htd (by show MR tx n b s1 (k + 1) (o + 1) W (os ++ [(26, (mTT tx n (k + 1)).2.1, 0, 0, 0)]) (ks ++ []); rw [List.append_nil]; exact a1) m1
      cases hs : pSeq (mTT tx n) rd (800 * b + ks.length) os.length (N + 1) (k + 1, td, [], [(26, (mTT tx n (k + 1)).2.1, 0, 0, 0)], []) with
      | inl e =>
        rw [hs] at I
        obtain ⟨s2, j, x, g1, g2, g3, g4, g5⟩ := I
        have g2' : j ≤ N + 5 - (k + 1) := g2
        exact ⟨s1, s2, j, x, e1, g1, by omega, g3, g4, r1.tr g5⟩
      | inr z =>
        rw [hs] at I
        obtain ⟨d1, d2, d3, d4, d5, d6, s2, j2, W2, g1, g2, g3, g4, g5⟩ := I
        simp only [if_pos d1]
        have d4' : 6 * z.2.2.2.1.length ≤ 6 * 1 + 7 * (z.1 - (k + 1)) := d4
        have d5' : 4 * z.2.2.1.length ≤ 4 * 0 + (z.1 - (k + 1)) := d5
        have g2' : j2 + (k + 1) ≤ z.1 := g2
        exact ⟨d1, d2, d3, by omega, by omega, d6, s1, s2, j2, W2, e1, g1, by omega, g3, g4, r1.tr g5⟩
  · rw [if_neg h123]
    obtain ⟨s1, e1, z1, r1⟩ := p3 h123
    exact ⟨s1, s1, 1, _, e1, fun m => lB_bad z1 m, by omega, z1, by omega, r1⟩
end MJ90
end
section
/-! ===== the reference reads STATEMENTS as the grammar ===== -/
section MJ91S
variable {T : TT} {M : Nat}
theorem pLoop_sh {sg : Int32 → Bool} {rd : Nat → Nat → PX} {kq : Nat} : ∀ (k : Nat) (z y : PZ), pLoop T sg rd kq k z = .inr y → y = z ∨ y.2.1 = 0
  | 0, z, y, h => by cases h; exact Or.inl rfl
  | k + 1, z, y, h => by
    unfold pLoop at h
    by_cases g : sg (T z.1).1 = true
    · rw [if_pos g] at h
      cases hd : rd (z.1 + 1) (kq + z.2.2.1.length) with
      | inl e => rw [hd] at h; cases h
      | inr w =>
        rw [hd] at h
        rcases pLoop_sh k _ y h with q | q
        · exact Or.inr (by rw [q])
        · exact Or.inr q
    · rw [if_neg g] at h
      cases h
      exact Or.inl rfl
theorem pPost_sh {ra : Nat → Nat → PX} {kq c : Nat} (hr : ∀ c kq y, ra c kq = .inr y → lnZ c 1 y) : ∀ (k : Nat) (z y : PZ), c < z.1 → z.2.2.2.1.length ≤ z.1 - c → (z.2.1 = 3 → z.2.2.2.1.length + 1 ≤ z.1 - c) → pPost T ra kq k z = .inr y → y.2.1 = 3 → y.2.2.2.1.length + 1 ≤ y.1 - c
  | 0, z, y, _, _, hz, h => by cases h; exact hz
  | k + 1, z, y, a1, a2, hz, h => by
    unfold pPost at h
    by_cases g : (T z.1).1 = 20
    · rw [if_pos g] at h
      cases hd : pKind T (z.1 + 1) with
      | inl e => rw [hd] at h; cases h
      | inr c' =>
        rw [hd] at h
        have hw := pKind_len hd
        exact pPost_sh hr k _ y (by show c < c'; omega) (by simp only [List.length_append, List.length_singleton]; omega) (fun q => absurd (show (0 : Int32) = 3 from q) (by decide)) h
    · rw [if_neg g] at h
      by_cases g2 : (T z.1).1 = 46
      · rw [if_pos g2] at h
        by_cases g3 : (T (z.1 + 1)).1 = 3
        · rw [if_pos g3] at h
          by_cases g4 : (T (z.1 + 2)).1 = 40
          · rw [if_pos g4] at h
            cases hd : ra (z.1 + 2) (kq + z.2.2.1.length) with
            | inl e => rw [hd] at h; cases h
            | inr w =>
              rw [hd] at h
              obtain ⟨b1, b2, b3⟩ := hr _ _ _ hd
              refine pPost_sh hr k _ y (by show c < w.1; omega) ?_ (fun _ => ?_) h
              · simp only [List.length_append]; omega
              · simp only [List.length_append]; omega
          · rw [if_neg g4] at h
            refine pPost_sh hr k _ y (by show c < z.1 + 2; omega) ?_ (fun _ => ?_) h
            · simp only [List.length_append, List.length_singleton]; omega
            · simp only [List.length_append, List.length_singleton]; omega
        · rw [if_neg g3] at h; cases h
      · rw [if_neg g2] at h
        cases h
        exact hz
theorem pAtom_sh {rv : Nat → Nat → PX} {o c kq : Nat} {y : PZ} (h : pAtom T rv o c kq = .inr y) : ¬ y.2.1 = 3 := by
  unfold pAtom at h
  have n1 : ¬ (1 : Int32) = 3 := by decide
  have n0 : ¬ (0 : Int32) = 3 := by decide
  by_cases k3 : (T c).1 = 3
  · rw [if_pos k3] at h; cases h; exact n1
  rw [if_neg k3] at h
  by_cases k4 : (T c).1 = 4
  · rw [if_pos k4] at h; cases h; exact n0
  rw [if_neg k4] at h
  by_cases k11 : (T c).1 = 11
  · rw [if_pos k11] at h; cases h; exact n0
  rw [if_neg k11] at h
  by_cases k12 : (T c).1 = 12
  · rw [if_pos k12] at h; cases h; exact n0
  rw [if_neg k12] at h
  by_cases k14 : (T c).1 = 14
  · rw [if_pos k14] at h
    cases hd : pKind T (c + 1) with
    | inl e => rw [hd] at h; cases h
    | inr c' => rw [hd] at h; cases h; exact n0
  rw [if_neg k14] at h
  by_cases k40 : (T c).1 = 40
  · rw [if_pos k40] at h
    by_cases g2 : o = 12
    · rw [if_pos g2] at h; cases h
    · rw [if_neg g2] at h
      cases hd : rv (c + 1) kq with
      | inl e => rw [hd] at h; cases h
      | inr z =>
        rw [hd] at h
        by_cases g3 : (T z.1).1 = 41
        · simp only [if_pos g3] at h
          cases h
          exact n0
        · simp only [if_neg g3] at h; cases h
  · rw [if_neg k40] at h; cases h
/-- a call's orders are fewer than its tokens -/
theorem prE_sh : ∀ (f tag o c kq : Nat) (y : PZ), tag ≤ 4 → prE T M f tag o c kq = .inr y → y.2.1 = 3 → y.2.2.2.1.length + 1 ≤ y.1 - c
  | 0, _, _, _, _, _, _, h => by cases h
  | f + 1, 0, o, c, kq, y, _, h => by
    rw [prE_0] at h
    cases hd : prE T M f 1 o c kq with
    | inl e => rw [hd] at h; cases h
    | inr z =>
      rw [hd] at h
      by_cases g : isCmp (T z.1).1 = true
      · simp only [if_pos g] at h
        cases hd2 : prE T M f 1 o (z.1 + 1) (kq + z.2.2.1.length) with
        | inl e => rw [hd2] at h; cases h
        | inr w =>
          rw [hd2] at h
          cases h
          exact fun q => absurd (show (0 : Int32) = 3 from q) (by decide)
      · simp only [if_neg g] at h
        cases h
        exact prE_sh f 1 o c kq _ (by omega) hd
  | f + 1, 1, o, c, kq, y, _, h => by
    rw [prE_1] at h
    cases hd : prE T M f 2 o c kq with
    | inl e => rw [hd] at h; cases h
    | inr z =>
      rw [hd] at h
      rcases pLoop_sh M z y h with q | q
      · rw [q]; exact prE_sh f 2 o c kq z (by omega) hd
      · rw [q]; exact fun q => absurd q (by decide)
  | f + 1, 2, o, c, kq, y, _, h => by
    rw [prE_2] at h
    cases hd : prE T M f 3 o c kq with
    | inl e => rw [hd] at h; cases h
    | inr z =>
      rw [hd] at h
      rcases pLoop_sh M z y h with q | q
      · rw [q]; exact prE_sh f 3 o c kq z (by omega) hd
      · rw [q]; exact fun q => absurd q (by decide)
  | f + 1, 3, o, c, kq, y, _, h => by
    rw [prE_3] at h
    by_cases g : (T c).1 = 45
    · rw [if_pos g] at h
      by_cases g2 : o = 12
      · rw [if_pos g2] at h; cases h
      · rw [if_neg g2] at h
        cases hd : prE T M f 3 (o + 1) (c + 1) kq with
        | inl e => rw [hd] at h; cases h
        | inr z =>
          rw [hd] at h
          cases h
          exact fun q => absurd (show (0 : Int32) = 3 from q) (by decide)
    · rw [if_neg g] at h
      exact prE_sh f 4 o c kq y (by omega) h
  | f + 1, 4, o, c, kq, y, _, h => by
    rw [prE_4] at h
    cases hd : prE T M f 5 o c kq with
    | inl e => rw [hd] at h; cases h
    | inr z =>
      rw [hd] at h
      obtain ⟨a1, a2, a3⟩ : lnZ c 0 z := prE_len f 5 o c kq z (by omega) hd
      refine pPost_sh (fun c kq y hy => prE_len f 6 o c kq y (by omega) hy) M z y a1 (by omega) (fun q => ?_) h
      cases f with
      | zero => cases hd
      | succ f => rw [prE_5] at hd; exact absurd q (pAtom_sh hd)
end MJ91S
section MJ91A
variable {T : TT} {M o c td kq i0 N : Nat} {z : PB}
theorem pGive_b (hN : N ≤ 3000) (h0 : (T N).1 = 0) (ho : o ≤ 12) (hc : c < N) (htd : td ≤ 16) {w : Int32} (h : pGive T (N + 1) o c td kq w = .inr z) : bB N c z := by
  unfold pGive at h
  cases hd : prV T (N + 1) o (c + 1) kq with
  | inl e => rw [hd] at h; cases h
  | inr y =>
    rw [hd] at h
    obtain ⟨y1, y2, y3⟩ : lnZ (c + 1) 0 y := prE_len 100 0 _ _ _ y (by omega) hd
    have hyN := (prE_le hN h0 ho (show c + 1 ≤ N from hc)).1 (by omega) hd
    by_cases e : (T y.1).1 = 59
    · simp only [if_pos e] at h
      have hl := lt_N hN h0 hyN e (by decide)
      cases h
      refine ⟨by show c < y.1 + 1; omega, hl, ?_, ?_, htd⟩
      · show 6 * (oLine T c :: (y.2.2.2.1 ++ [_])).length ≤ 7 * (y.1 + 1 - c)
        rw [List.length_cons, List.length_append, List.length_singleton]; omega
      · show 4 * y.2.2.1.length ≤ y.1 + 1 - c; omega
    · simp only [if_neg e] at h; cases h
theorem pDecl_b (hN : N ≤ 3000) (h0 : (T N).1 = 0) (ho : o ≤ 12) (hc : c ≤ N) (htd : td ≤ 16) (h : pDecl T (N + 1) o c td kq = .inr z) : bB N c z := by
  unfold pDecl at h
  cases hp : pType T c with
  | inl e => rw [hp] at h; cases h
  | inr c1 =>
    rw [hp] at h
    have hc1 := pType_le hN h0 hc hp
    have hln := pType_len hp
    by_cases h3 : (T c1).1 = 3
    · simp only [if_pos h3] at h
      have hl1 := lt_N hN h0 hc1 h3 (by decide)
      by_cases h16 : td = 16
      · simp only [if_pos h16] at h; cases h
      · simp only [if_neg h16] at h
        by_cases h61 : (T (c1 + 1)).1 = 61
        · simp only [if_pos h61] at h
          have hl2 := lt_N hN h0 (show c1 + 1 ≤ N from hl1) h61 (by decide)
          cases hd : prV T (N + 1) o (c1 + 2) (kq + (if (T c).1 = 10 then 0 else 1)) with
          | inl e => rw [hd] at h; cases h
          | inr y =>
            rw [hd] at h
            obtain ⟨y1, y2, y3⟩ : lnZ (c1 + 2) 0 y := prE_len 100 0 _ _ _ y (by omega) hd
            have hyN := (prE_le hN h0 ho (show c1 + 2 ≤ N from hl2)).1 (by omega) hd
            by_cases e : (T y.1).1 = 59
            · simp only [if_pos e] at h
              have hl := lt_N hN h0 hyN e (by decide)
              cases h
              refine ⟨by show c < y.1 + 1; omega, hl, ?_, ?_, by show td + 1 ≤ 16; omega⟩
              · simp only [List.length_cons, List.length_append, List.length_nil]; omega
              · by_cases e10 : (T c).1 = 10
                · show 4 * ((if (T c).1 = 10 then [] else [c]) ++ y.2.2.1).length ≤ y.1 + 1 - c
                  rw [if_pos e10]; show 4 * y.2.2.1.length ≤ _; omega
                · show 4 * ((if (T c).1 = 10 then [] else [c]) ++ y.2.2.1).length ≤ y.1 + 1 - c
                  have := hln.2 e10
                  rw [if_neg e10, List.length_append, List.length_singleton]; omega
            · simp only [if_neg e] at h; cases h
        · simp only [if_neg h61] at h; cases h
    · simp only [if_neg h3] at h; cases h
theorem pUse_b (hN : N ≤ 3000) (h0 : (T N).1 = 0) (ho : o ≤ 12) (hc : c ≤ N) (htd : td ≤ 16) (h : pUse T (N + 1) o c td kq i0 = .inr z) : bB N c z := by
  unfold pUse at h
  cases hd : prV T (N + 1) o c kq with
  | inl e => rw [hd] at h; cases h
  | inr y =>
    rw [hd] at h
    obtain ⟨y1, y2, y3⟩ : lnZ c 0 y := prE_len 100 0 _ _ _ y (by omega) hd
    have hyN := (prE_le hN h0 ho hc).1 (by omega) hd
    obtain ⟨q, r, hq⟩ := snoc_of _ (prE_ne 100 0 _ _ _ y (by omega) hd)
    have ql : y.2.2.2.1.length = q.length + 1 := by rw [hq, List.length_append]; rfl
    by_cases hL : (T y.1).1 = 61 ∧ (y.2.1 = 1 ∨ y.2.1 = 2)
    · simp only [if_pos hL] at h
      have hl1 := lt_N hN h0 hyN hL.1 (by decide)
      cases hv : prV T (N + 1) o (y.1 + 1) (kq + y.2.2.1.length) with
      | inl e => rw [hv] at h; cases h
      | inr w =>
        rw [hv] at h
        obtain ⟨w1, w2, w3⟩ : lnZ (y.1 + 1) 0 w := prE_len 100 0 _ _ _ w (by omega) hv
        have hwN := (prE_le hN h0 ho (show y.1 + 1 ≤ N from hl1)).1 (by omega) hv
        by_cases e : (T w.1).1 = 59
        · simp only [if_pos e] at h
          have hl := lt_N hN h0 hwN e (by decide)
          cases h
          refine ⟨by show c < w.1 + 1; omega, hl, ?_, ?_, htd⟩
          · have ol : (oLeft y.2.1 y.2.2.2.1).length = q.length + 1 := by rw [hq, oLeft_end, List.length_append]; rfl
            simp only [List.length_cons, List.length_append, List.length_nil, ol]; omega
          · show 4 * (y.2.2.1 ++ w.2.2.1).length ≤ w.1 + 1 - c
            rw [List.length_append]; omega
        · simp only [if_neg e] at h; cases h
    · simp only [if_neg hL] at h
      by_cases hR : (T y.1).1 = 59 ∧ y.2.1 = 3
      · simp only [if_pos hR] at h
        have hl := lt_N hN h0 hyN hR.1 (by decide)
        cases h
        have sh := prE_sh 100 0 _ _ _ y (by omega) hd hR.2
        refine ⟨by show c < y.1 + 1; omega, hl, ?_, ?_, htd⟩
        · simp only [List.length_cons, List.length_append, List.length_nil]; omega
        · show 4 * y.2.2.1.length ≤ y.1 + 1 - c; omega
      · simp only [if_neg hR] at h; cases h
theorem pHd_b (hN : N ≤ 3000) (h0 : (T N).1 = 0) (ho : o ≤ 12) (hc : c < N) {y : PZ} (h : pHd T (N + 1) o c kq = .inr y) : o < 12 ∧ lnZ (c + 2) 0 y ∧ y.1 < N := by
  unfold pHd at h
  by_cases h40 : (T (c + 1)).1 = 40
  · rw [if_pos h40] at h
    have hc1 := lt_N hN h0 (show c + 1 ≤ N from hc) h40 (by decide)
    by_cases h12 : o = 12
    · rw [if_pos h12] at h; cases h
    · rw [if_neg h12] at h
      cases hd : prV T (N + 1) (o + 1) (c + 2) kq with
      | inl e => rw [hd] at h; cases h
      | inr w =>
        rw [hd] at h
        have hyN := (prE_le hN h0 (show o + 1 ≤ 12 by omega) (show c + 2 ≤ N from hc1)).1 (by omega) hd
        by_cases e : (T w.1).1 = 41
        · simp only [if_pos e] at h
          cases h
          exact ⟨by omega, prE_len 100 0 _ _ _ _ (by omega) hd, lt_N hN h0 hyN e (by decide)⟩
        · simp only [if_neg e] at h; cases h
  · rw [if_neg h40] at h; cases h
end MJ91A
section MJ91
variable {tx : Nat → Int32} {n b D N : Nat}
/-- STATEMENT, read by the loop -/
theorem st_ok (h0 : (mTT tx n N).1 = 0) (hN : N ≤ 3000) : ∀ (f o : Nat) (S : List SF) (k : Nat) (s : mjSt3) (W : List WF) (os : List Row) (ks : List Nat) (td : Nat), 2 * (12 - o) + 2 ≤ f → o ≤ 12 → S.length ≤ o → 1 ≤ S.length → k ≤ N → 6 * os.length ≤ 7 * k → 4 * ks.length ≤ k → td ≤ 16 → MR tx n b s k o W os ks → MS s td S → ¬ (mTT tx n k).1 = 125 → gB tx n b D N s k o os ks S (prS (mTT tx n) (N + 1) f 1 o k td (800 * b + ks.length) os.length)
  | 0, _, _, _, _, _, _, _, _, hf, _, _, _, _, _, _, _, _, _, _ => by omega
  | 1, _, _, _, _, _, _, _, _, hf, _, _, _, _, _, _, _, _, _, _ => by omega
  | g + 2, o, S, k, s, W, os, ks, td, hf, ho, hSo, hS1, hk, hos, hks, htd, a, m, n125 => by
    have ih := st_ok h0 hN g (o + 1)
    have stp : ∀ q, lB D (q + 1) s = bN (mjF (D + 12) 284 [.ref 97] (mjW0 s)) (fun hp => L_279_12 (mjF (D + 12)) q 97 hp) := fun q => by rw [lB_step a m hS1 (by omega), if_neg n125]
    have dsp := st_disp (D := D) a
    have blk := fun (F : SF) (k : Nat) (s : mjSt3) (W : List WF) (os : List Row) (ks : List Nat) (td : Nat) => blk_ok (d := D + 5) (D := D) (S := S) (o := o) (k := k) (s := s) (W := W) (os := os) (ks := ks) (td := td) (b := b) (rd := prS (mTT tx n) (N + 1) g 1 (o + 1)) F (by omega) h0 hN (fun h12 k s W os ks td hk hos hks htd a m n1 => ih (S ++ [F]) k s W os ks td (by omega) (by omega) (by rw [List.length_append, List.length_singleton]; omega) (by rw [List.length_append, List.length_singleton]; omega) hk hos hks htd a m n1) ho
    rw [prS_1]
    by_cases hty : (mTT tx n k).1 = 2 ∨ (mTT tx n k).1 = 10
    · rw [if_pos hty]
      have n123 : ¬ (mTT tx n k).1 = 123 := by rcases hty with e | e <;> rw [e] <;> decide
      have ty : tyS (mTT tx n k).1 = true := by rcases hty with e | e <;> rw [e] <;> decide
      rw [if_neg n123, if_pos ty] at dsp
      have G := m_decl (D := D) (B := 500) h0 hN (by omega) ho hk (by omega) hks htd a m
      refine gB_of hk (fun q => ?_) G (fun z hz => pDecl_b hN h0 ho hk htd hz)
      rw [stp, dsp]
      cases mjF (D + 11) 285 [.ref 97, .int (mTT tx n k).2.1] (mjW0 s) with
      | none => rfl
      | some p => obtain ⟨p1, p2⟩ := p; cases p1 <;> rfl
    rw [if_neg hty]
    have nty : ¬ tyS (mTT tx n k).1 = true := by
      simp only [tyS, decide_eq_true_eq]; exact fun q => hty (q.symm)
    by_cases h15 : (mTT tx n k).1 = 15
    · rw [if_pos h15]
      have n123 : ¬ (mTT tx n k).1 = 123 := by rw [h15]; decide
      have hkN := lt_N hN h0 hk h15 (by decide)
      rw [if_neg n123, if_neg nty, if_pos (Or.inl h15)] at dsp
      have H := m_head (D := D + 1) (B := 500) h0 hN (by omega) ho hk (by omega) hks a m (Or.inl h15)
      unfold pIf
      rw [pGrd_hd]
      cases hh : pHd (mTT tx n) (N + 1) o k (800 * b + ks.length) with
      | inl e =>
        rw [hh] at H
        obtain ⟨s1, x, e1, z1, hx, r1⟩ := H
        have R : FB (mTT tx n) b D N s k e := FB.one (fun q => by rw [stp, dsp, e1, bN_s]; rfl) hk z1 (by omega) r1
        exact R
      | inr y =>
        rw [hh] at H
        obtain ⟨o12, ⟨y1, y2, y3⟩, yN⟩ := pHd_b hN h0 ho hkN hh
        obtain ⟨s1, e1, a1, m1, r1⟩ := H
        have hd1 : hdO (mTT tx n) k = [oLine (mTT tx n) k] := if_pos h15
        rw [hd1, if_pos h15] at e1
        rw [hd1] at a1
        obtain ⟨A, hA⟩ : ∃ A, A = os ++ [oLine (mTT tx n) k] ++ y.2.2.2.1 := ⟨_, rfl⟩
        have AL : A.length = os.length + 1 + y.2.2.2.1.length := by rw [hA, List.length_append, List.length_append, List.length_singleton]
        have AL1 : (A ++ [((21 : Int32), (mTT tx n k).2.1, (0 : Int32), (0 : Int32), (0 : Int64))]).length = os.length + 1 + y.2.2.2.1.length + 1 := by rw [List.length_append, List.length_singleton, AL]
        have KL1 : (ks ++ y.2.2.1).length = ks.length + y.2.2.1.length := List.length_append
        rw [← hA] at a1
        rw [List.length_singleton, ← AL] at e1
        have Bk := blk (2, nI A.length, nI (os.length + 1)) (y.1 + 1) s1 [] _ _ td (by omega) (by rw [AL1]; omega) (by rw [KL1]; omega) htd a1 m1
        rw [AL1, KL1, ← Nat.add_assoc (800 * b)] at Bk
        show gB tx n b D N s k o os ks S (match (match pBlk (mTT tx n) (N + 1) (prS (mTT tx n) (N + 1) g 1 (o + 1)) o (y.1 + 1) td (800 * b + ks.length + y.2.2.1.length) (os.length + 1 + y.2.2.2.1.length + 1) with
            | .inl e => .inl e
            | .inr z => .inr (y, z) : (Nat × Nat) ⊕ (PZ × PB)) with
          | .inl e => .inl e
          | .inr (y, z) => _)
        rw [pBlk_in]
        cases hp : pIn (mTT tx n) (N + 1) (prS (mTT tx n) (N + 1) g 1 (o + 1)) o (y.1 + 1) td (800 * b + ks.length + y.2.2.1.length) (os.length + 1 + y.2.2.2.1.length + 1) with
        | inl e =>
          rw [hp] at Bk
          obtain ⟨t, s2, j, x, g1, g2, g3, g4, g5, g6⟩ := Bk
          have R : FB (mTT tx n) b D N s k e := ⟨s2, j + 1, x, fun q => by rw [show q + (j + 1) = (q + j) + 1 by omega, stp, dsp, e1, g1, bN_s, bN_s]; exact g2 q, by omega, g4, g5, (offS_of r1).tr g6⟩
          exact R
        | inr z =>
          rw [hp] at Bk
          obtain ⟨d1, d2, d3, d4, d5, d6, t, s2, j2, W2, g1, g2, g3, g4, g5, g6⟩ := Bk
          have stp2 : ∀ q, lB D (q + 1) s2 = bN (mjF (D + 12) 282 [.ref 97] (mjW0 s2)) (fun hp => L_279_12 (mjF (D + 12)) q 97 hp) := fun q => by rw [lB_step g4 g5 (by rw [List.length_append, List.length_singleton]; omega) (by rw [List.length_append, List.length_singleton]; omega), if_pos d1]
          have g4' : MR tx n b s2 z.1 (o + 1) W2 (A ++ (21, (mTT tx n k).2.1, 0, 0, 0) :: z.2.2.2.1) (ks ++ y.2.2.1 ++ z.2.2.1) := by
            rw [List.append_assoc A] at g4; exact g4
          have r02 : offS b s s2 := (offS_of r1).tr g6
          have two : ∀ q, lB D (q + (j2 + 1)) s = lB D q s2 := fun q => by rw [show q + (j2 + 1) = (q + j2) + 1 by omega, stp, dsp, e1, g1, bN_s, bN_s]; exact g2 q
          have zl : (z.2.2.2.1 ++ [((27 : Int32), (mTT tx n (z.1 + 1)).2.1, (0 : Int32), (0 : Int32), (0 : Int64))]).length = z.2.2.2.1.length + 1 := by rw [List.length_append, List.length_singleton]
          by_cases h16 : (mTT tx n (z.1 + 1)).1 = 16
          · have hz1 := lt_N hN h0 (show z.1 + 1 ≤ N from d3) h16 (by decide)
            obtain ⟨s3, e3, a3, m3, r3⟩ := m_end2e (D := D + 2) g4' g5 (by omega) (by omega) d1 h16
            have L3 : (A ++ ((21 : Int32), (mTT tx n k).2.1, nI (A.length + z.2.2.2.1.length + 3), (0 : Int32), (0 : Int64)) :: (z.2.2.2.1 ++ [((27 : Int32), (mTT tx n (z.1 + 1)).2.1, (0 : Int32), (0 : Int32), (0 : Int64)), (22, -1, 0, 0, 0)])).length = A.length + z.2.2.2.1.length + 3 := by
              simp only [List.length_append, List.length_cons, List.length_nil]; omega
            have K3 : (ks ++ y.2.2.1 ++ z.2.2.1).length = ks.length + y.2.2.1.length + z.2.2.1.length := by rw [List.length_append, KL1]
            have B3 := blk (3, nI (A.length + z.2.2.2.1.length + 2), -1) (z.1 + 2) s3 W2 _ _ z.2.1 (by omega) (by rw [L3]; omega) (by rw [K3]; omega) d6 a3 m3
            have eq3 : A.length + z.2.2.2.1.length + 3 = os.length + 3 + y.2.2.2.1.length + (z.2.2.2.1.length + 1) := by omega
            rw [L3, K3, ← Nat.add_assoc (800 * b), ← Nat.add_assoc (800 * b), eq3] at B3
            simp only [if_pos h16]
            show gB tx n b D N s k o os ks S (match pBlk (mTT tx n) (N + 1) (prS (mTT tx n) (N + 1) g 1 (o + 1)) o (z.1 + 1 + 1) z.2.1 (800 * b + ks.length + y.2.2.1.length + z.2.2.1.length) (os.length + 3 + y.2.2.2.1.length + (z.2.2.2.1 ++ [((27 : Int32), (mTT tx n (z.1 + 1)).2.1, (0 : Int32), (0 : Int32), (0 : Int64))]).length) with
              | .inl e => .inl e
              | .inr w => _)
            rw [pBlk_in, zl]
            cases hp3 : pIn (mTT tx n) (N + 1) (prS (mTT tx n) (N + 1) g 1 (o + 1)) o (z.1 + 1 + 1) z.2.1 (800 * b + ks.length + y.2.2.1.length + z.2.2.1.length) (os.length + 3 + y.2.2.2.1.length + (z.2.2.2.1.length + 1)) with
            | inl e =>
              rw [show z.1 + 2 = z.1 + 1 + 1 from rfl, hp3] at B3
              obtain ⟨t3, s4, j, x, i1, i2, i3, i4, i5, i6⟩ := B3
              have R : FB (mTT tx n) b D N s k e := ⟨s4, (j + 1) + (j2 + 1), x, fun q => by rw [← Nat.add_assoc, two, show q + (j + 1) = (q + j) + 1 by omega, stp2, e3, i1, bN_s, bN_s]; exact i2 q, by omega, i4, i5, (r02.tr r3).tr i6⟩
              exact R
            | inr w =>
              rw [show z.1 + 2 = z.1 + 1 + 1 from rfl, hp3] at B3
              obtain ⟨c1, c2, c3, c4, c5, c6, t3, s4, j4, W4, i1, i2, i3, i4, i5, i6⟩ := B3
              have stp4 : ∀ q, lB D (q + 1) s4 = bN (mjF (D + 12) 282 [.ref 97] (mjW0 s4)) (fun hp => L_279_12 (mjF (D + 12)) q 97 hp) := fun q => by rw [lB_step i4 i5 (by rw [List.length_append, List.length_singleton]; omega) (by rw [List.length_append, List.length_singleton]; omega), if_pos c1]
              obtain ⟨A4, hA4⟩ : ∃ A4, A4 = A ++ ((21 : Int32), (mTT tx n k).2.1, nI (A.length + z.2.2.2.1.length + 3), (0 : Int32), (0 : Int64)) :: (z.2.2.2.1 ++ [((27 : Int32), (mTT tx n (z.1 + 1)).2.1, (0 : Int32), (0 : Int32), (0 : Int64))]) := ⟨_, rfl⟩
              have AL4 : A4.length = A.length + z.2.2.2.1.length + 2 := by
                rw [hA4]; simp only [List.length_append, List.length_cons, List.length_nil]; omega
              have i4' : MR tx n b s4 w.1 (o + 1) W4 (A4 ++ (22, -1, 0, 0, 0) :: w.2.2.2.1) (ks ++ y.2.2.1 ++ z.2.2.1 ++ w.2.2.1) := by
                have q : A4 ++ (22, -1, 0, 0, 0) :: w.2.2.2.1 = A ++ ((21 : Int32), (mTT tx n k).2.1, nI (A.length + z.2.2.2.1.length + 3), (0 : Int32), (0 : Int64)) :: (z.2.2.2.1 ++ [((27 : Int32), (mTT tx n (z.1 + 1)).2.1, (0 : Int32), (0 : Int32), (0 : Int64)), (22, -1, 0, 0, 0)]) ++ w.2.2.2.1 := by
                  rw [hA4]; simp
                rw [← eq3] at i4
                rw [q]; exact i4
              rw [← AL4] at i5
              obtain ⟨s5, e5, a5, m5, r5⟩ := m_end3 (D := D + 2) i4' i5 (by omega) (by omega) c1
              refine ⟨⟨by show k < w.1 + 1; omega, by show w.1 + 1 ≤ N; omega, ?_, ?_, c6⟩, s5, (1 + j4 + 1) + (j2 + 1), W4, fun q => ?_, by show _ ≤ w.1 + 1; omega, ?_, m5, ((r02.tr r3).tr i6).tr r5⟩
              · simp only [List.length_append, List.length_cons, List.length_nil]; omega
              · simp only [List.length_append]; omega
              · rw [← Nat.add_assoc, two, show q + (1 + j4 + 1) = ((q + 1) + j4) + 1 by omega, stp2, e3, i1, bN_s, bN_s]
                show lB D (q + 1 + j4) t3 = _
                rw [i2, stp4, e5, bN_s]; rfl
              · have ka : ks ++ y.2.2.1 ++ z.2.2.1 ++ w.2.2.1 = ks ++ (y.2.2.1 ++ z.2.2.1 ++ w.2.2.1) := by simp
                rw [ka] at a5
                have ra : A4 ++ (22, -1, nI (A4.length + w.2.2.2.1.length + 2), 0, 0) :: (w.2.2.2.1 ++ [((27 : Int32), (mTT tx n (w.1 + 1)).2.1, (0 : Int32), (0 : Int32), (0 : Int64))]) = os ++ (oLine (mTT tx n) k :: (y.2.2.2.1 ++ ((21 : Int32), (mTT tx n k).2.1, nI (os.length + 3 + y.2.2.2.1.length + (z.2.2.2.1.length + 1)), (0 : Int32), (0 : Int64)) :: (z.2.2.2.1 ++ [((27 : Int32), (mTT tx n (z.1 + 1)).2.1, (0 : Int32), (0 : Int32), (0 : Int64))] ++ ((22 : Int32), (-1 : Int32), nI (os.length + 3 + y.2.2.2.1.length + (z.2.2.2.1.length + 1) + (w.2.2.2.1 ++ [((27 : Int32), (mTT tx n (w.1 + 1)).2.1, (0 : Int32), (0 : Int32), (0 : Int64))]).length), (0 : Int32), (0 : Int64)) :: (w.2.2.2.1 ++ [((27 : Int32), (mTT tx n (w.1 + 1)).2.1, (0 : Int32), (0 : Int32), (0 : Int64))])))) := by
                  rw [show (w.2.2.2.1 ++ [((27 : Int32), (mTT tx n (w.1 + 1)).2.1, (0 : Int32), (0 : Int32), (0 : Int64))]).length = w.2.2.2.1.length + 1 by rw [List.length_append, List.length_singleton], show A4.length + w.2.2.2.1.length + 2 = os.length + 3 + y.2.2.2.1.length + (z.2.2.2.1.length + 1) + (w.2.2.2.1.length + 1) by omega]
                  generalize nI (os.length + 3 + y.2.2.2.1.length + (z.2.2.2.1.length + 1) + (w.2.2.2.1.length + 1)) = g2
                  rw [hA4, show A.length + z.2.2.2.1.length + 3 = os.length + 3 + y.2.2.2.1.length + (z.2.2.2.1.length + 1) by omega]
                  generalize nI (os.length + 3 + y.2.2.2.1.length + (z.2.2.2.1.length + 1)) = g1
                  rw [hA]
                  simp
                rw [ra] at a5
                exact a5
          · simp only [if_neg h16]
            obtain ⟨s3, e3, a3, m3, r3⟩ := m_end2 (D := D + 2) g4' g5 (by omega) (by omega) d1 h16
            refine ⟨⟨by show k < z.1 + 1; omega, by show z.1 + 1 ≤ N; omega, ?_, ?_, d6⟩, s3, 1 + (j2 + 1), W2, fun q => ?_, by show _ ≤ z.1 + 1; omega, ?_, m3, r02.tr r3⟩
            · simp only [List.length_append, List.length_cons, List.length_nil]; omega
            · simp only [List.length_append]; omega
            · rw [← Nat.add_assoc, two, stp2, e3, bN_s]; rfl
            · have ka : ks ++ y.2.2.1 ++ z.2.2.1 = ks ++ (y.2.2.1 ++ z.2.2.1) := List.append_assoc _ _ _
              rw [ka] at a3
              have ra : A ++ (21, (mTT tx n k).2.1, nI (A.length + z.2.2.2.1.length + 2), 0, 0) :: (z.2.2.2.1 ++ [((27 : Int32), (mTT tx n (z.1 + 1)).2.1, (0 : Int32), (0 : Int32), (0 : Int64))]) = os ++ (oLine (mTT tx n) k :: (y.2.2.2.1 ++ ((21 : Int32), (mTT tx n k).2.1, nI (os.length + 2 + y.2.2.2.1.length + (z.2.2.2.1 ++ [((27 : Int32), (mTT tx n (z.1 + 1)).2.1, (0 : Int32), (0 : Int32), (0 : Int64))]).length), (0 : Int32), (0 : Int64)) :: (z.2.2.2.1 ++ [((27 : Int32), (mTT tx n (z.1 + 1)).2.1, (0 : Int32), (0 : Int32), (0 : Int64))]))) := by
                rw [zl, show A.length + z.2.2.2.1.length + 2 = os.length + 2 + y.2.2.2.1.length + (z.2.2.2.1.length + 1) by omega]
                generalize nI (os.length + 2 + y.2.2.2.1.length + (z.2.2.2.1.length + 1)) = g1
                rw [hA]
                simp
              rw [ra] at a3
              exact a3
    rw [if_neg h15]
    by_cases h17 : (mTT tx n k).1 = 17
    · rw [if_pos h17]
      have n123 : ¬ (mTT tx n k).1 = 123 := by rw [h17]; decide
      have hkN := lt_N hN h0 hk h17 (by decide)
      rw [if_neg n123, if_neg nty, if_pos (Or.inr h17)] at dsp
      have H := m_head (D := D + 1) (B := 500) h0 hN (by omega) ho hk (by omega) hks a m (Or.inr h17)
      unfold pWhile
      rw [pGrd_hd]
      cases hh : pHd (mTT tx n) (N + 1) o k (800 * b + ks.length) with
      | inl e =>
        rw [hh] at H
        obtain ⟨s1, x, e1, z1, hx, r1⟩ := H
        have R : FB (mTT tx n) b D N s k e := FB.one (fun q => by rw [stp, dsp, e1, bN_s]; rfl) hk z1 (by omega) r1
        exact R
      | inr y =>
        rw [hh] at H
        obtain ⟨o12, ⟨y1, y2, y3⟩, yN⟩ := pHd_b hN h0 ho hkN hh
        obtain ⟨s1, e1, a1, m1, r1⟩ := H
        have hd1 : hdO (mTT tx n) k = [oLine (mTT tx n) k, (2, (mTT tx n k).2.1, 0, 0, 0)] := if_neg h15
        rw [hd1, if_neg h15] at e1
        rw [hd1] at a1
        obtain ⟨A, hA⟩ : ∃ A, A = os ++ [oLine (mTT tx n) k, (2, (mTT tx n k).2.1, 0, 0, 0)] ++ y.2.2.2.1 := ⟨_, rfl⟩
        have l2 : [oLine (mTT tx n) k, (2, (mTT tx n k).2.1, 0, 0, 0)].length = 2 := rfl
        have AL : A.length = os.length + 2 + y.2.2.2.1.length := by rw [hA, List.length_append, List.length_append, l2]
        have AL1 : (A ++ [((21 : Int32), (mTT tx n k).2.1, (0 : Int32), (0 : Int32), (0 : Int64))]).length = os.length + 2 + y.2.2.2.1.length + 1 := by rw [List.length_append, List.length_singleton, AL]
        have KL1 : (ks ++ y.2.2.1).length = ks.length + y.2.2.1.length := List.length_append
        rw [← hA] at a1
        rw [l2, ← AL] at e1
        have Bk := blk (4, nI A.length, nI (os.length + 1)) (y.1 + 1) s1 [] _ _ td (by omega) (by rw [AL1]; omega) (by rw [KL1]; omega) htd a1 m1
        rw [AL1, KL1, ← Nat.add_assoc (800 * b)] at Bk
        show gB tx n b D N s k o os ks S (match (match pBlk (mTT tx n) (N + 1) (prS (mTT tx n) (N + 1) g 1 (o + 1)) o (y.1 + 1) td (800 * b + ks.length + y.2.2.1.length) (os.length + 2 + y.2.2.2.1.length + 1) with
            | .inl e => .inl e
            | .inr z => .inr (y, z) : (Nat × Nat) ⊕ (PZ × PB)) with
          | .inl e => .inl e
          | .inr (y, z) => _)
        rw [pBlk_in]
        cases hp : pIn (mTT tx n) (N + 1) (prS (mTT tx n) (N + 1) g 1 (o + 1)) o (y.1 + 1) td (800 * b + ks.length + y.2.2.1.length) (os.length + 2 + y.2.2.2.1.length + 1) with
        | inl e =>
          rw [hp] at Bk
          obtain ⟨t, s2, j, x, g1, g2, g3, g4, g5, g6⟩ := Bk
          have R : FB (mTT tx n) b D N s k e := ⟨s2, j + 1, x, fun q => by rw [show q + (j + 1) = (q + j) + 1 by omega, stp, dsp, e1, g1, bN_s, bN_s]; exact g2 q, by omega, g4, g5, (offS_of r1).tr g6⟩
          exact R
        | inr z =>
          rw [hp] at Bk
          obtain ⟨d1, d2, d3, d4, d5, d6, t, s2, j2, W2, g1, g2, g3, g4, g5, g6⟩ := Bk
          have stp2 : ∀ q, lB D (q + 1) s2 = bN (mjF (D + 12) 282 [.ref 97] (mjW0 s2)) (fun hp => L_279_12 (mjF (D + 12)) q 97 hp) := fun q => by rw [lB_step g4 g5 (by rw [List.length_append, List.length_singleton]; omega) (by rw [List.length_append, List.length_singleton]; omega), if_pos d1]
          have g4' : MR tx n b s2 z.1 (o + 1) W2 (A ++ (21, (mTT tx n k).2.1, 0, 0, 0) :: z.2.2.2.1) (ks ++ y.2.2.1 ++ z.2.2.1) := by
            rw [List.append_assoc A] at g4; exact g4
          have r02 : offS b s s2 := (offS_of r1).tr g6
          have two : ∀ q, lB D (q + (j2 + 1)) s = lB D q s2 := fun q => by rw [show q + (j2 + 1) = (q + j2) + 1 by omega, stp, dsp, e1, g1, bN_s, bN_s]; exact g2 q
          have zl : (z.2.2.2.1 ++ [((27 : Int32), (mTT tx n (z.1 + 1)).2.1, (0 : Int32), (0 : Int32), (0 : Int64))]).length = z.2.2.2.1.length + 1 := by rw [List.length_append, List.length_singleton]
          obtain ⟨s3, e3, a3, m3, r3⟩ := m_end4 (D := D + 2) g4' g5 (by omega) (by omega) d1
          refine ⟨⟨by show k < z.1 + 1; omega, by show z.1 + 1 ≤ N; omega, ?_, ?_, d6⟩, s3, 1 + (j2 + 1), W2, fun q => ?_, by show _ ≤ z.1 + 1; omega, ?_, m3, r02.tr r3⟩
          · simp only [List.length_append, List.length_cons, List.length_nil]; omega
          · simp only [List.length_append]; omega
          · rw [← Nat.add_assoc, two, stp2, e3, bN_s]; rfl
          · have ka : ks ++ y.2.2.1 ++ z.2.2.1 = ks ++ (y.2.2.1 ++ z.2.2.1) := List.append_assoc _ _ _
            rw [ka] at a3
            have ra : A ++ (21, (mTT tx n k).2.1, nI (A.length + z.2.2.2.1.length + 3), 0, 0) :: (z.2.2.2.1 ++ [((27 : Int32), (mTT tx n (z.1 + 1)).2.1, (0 : Int32), (0 : Int32), (0 : Int64)), (23, -1, nI (os.length + 1), 0, 0)]) = os ++ (oLine (mTT tx n) k :: (2, (mTT tx n k).2.1, 0, 0, 0) :: (y.2.2.2.1 ++ ((21 : Int32), (mTT tx n k).2.1, nI (os.length + 4 + y.2.2.2.1.length + (z.2.2.2.1 ++ [((27 : Int32), (mTT tx n (z.1 + 1)).2.1, (0 : Int32), (0 : Int32), (0 : Int64))]).length), (0 : Int32), (0 : Int64)) :: (z.2.2.2.1 ++ [((27 : Int32), (mTT tx n (z.1 + 1)).2.1, (0 : Int32), (0 : Int32), (0 : Int64))] ++ [(23, -1, nI (os.length + 1), 0, 0)]))) := by
              rw [zl, show A.length + z.2.2.2.1.length + 3 = os.length + 4 + y.2.2.2.1.length + (z.2.2.2.1.length + 1) by omega]
              generalize nI (os.length + 4 + y.2.2.2.1.length + (z.2.2.2.1.length + 1)) = g1
              generalize nI (os.length + 1) = g2
              rw [hA]
              simp
            rw [ra] at a3
            exact a3
    rw [if_neg h17]
    have n1517 : ¬ ((mTT tx n k).1 = 15 ∨ (mTT tx n k).1 = 17) := fun q => q.elim h15 h17
    by_cases h18 : (mTT tx n k).1 = 18
    · rw [if_pos h18]
      have n123 : ¬ (mTT tx n k).1 = 123 := by rw [h18]; decide
      rw [if_neg n123, if_neg nty, if_neg n1517, if_pos h18] at dsp
      have hkN := lt_N hN h0 hk h18 (by decide)
      have G := m_give (D := D + 1) (B := 500) h0 hN (by omega) ho hkN (by omega) hks a m (by rw [h18]; decide) 28
      exact gB_of hk (fun q => by rw [stp, dsp]) G (fun z hz => pGive_b hN h0 ho hkN htd hz)
    rw [if_neg h18]
    by_cases h19 : (mTT tx n k).1 = 19
    · rw [if_pos h19]
      have n123 : ¬ (mTT tx n k).1 = 123 := by rw [h19]; decide
      rw [if_neg n123, if_neg nty, if_neg n1517, if_neg h18, if_pos h19] at dsp
      have hkN := lt_N hN h0 hk h19 (by decide)
      have G := m_give (D := D + 1) (B := 500) h0 hN (by omega) ho hkN (by omega) hks a m (by rw [h19]; decide) 24
      exact gB_of hk (fun q => by rw [stp, dsp]) G (fun z hz => pGive_b hN h0 ho hkN htd hz)
    rw [if_neg h19]
    by_cases h123 : (mTT tx n k).1 = 123
    · rw [if_pos h123, prS_0, pBlk_in]
      rw [if_pos h123] at dsp
      have Bk := blk (1, -1, -1) k s W os ks td hk hos hks htd a m
      cases hp : pIn (mTT tx n) (N + 1) (prS (mTT tx n) (N + 1) g 1 (o + 1)) o k td (800 * b + ks.length) os.length with
      | inl e =>
        rw [hp] at Bk
        obtain ⟨t, s2, j, x, g1, g2, g3, g4, g5, g6⟩ := Bk
        have R : FB (mTT tx n) b D N s k e := ⟨s2, j + 1, x, fun q => by rw [show q + (j + 1) = (q + j) + 1 by omega, stp, dsp, g1, bN_s, bN_s]; exact g2 q, by omega, g4, g5, g6⟩
        exact R
      | inr z =>
        rw [hp] at Bk
        obtain ⟨d1, d2, d3, d4, d5, d6, t, s2, j2, W2, g1, g2, g3, g4, g5, g6⟩ := Bk
        have stp2 : ∀ q, lB D (q + 1) s2 = bN (mjF (D + 12) 282 [.ref 97] (mjW0 s2)) (fun hp => L_279_12 (mjF (D + 12)) q 97 hp) := fun q => by rw [lB_step g4 g5 (by rw [List.length_append, List.length_singleton]; omega) (by rw [List.length_append, List.length_singleton]; omega), if_pos d1]
        have two : ∀ q, lB D (q + (j2 + 1)) s = lB D q s2 := fun q => by rw [show q + (j2 + 1) = (q + j2) + 1 by omega, stp, dsp, g1, bN_s, bN_s]; exact g2 q
        obtain ⟨s3, e3, a3, m3, r3⟩ := m_end1 (D := D + 2) g4 g5 (by omega) (by rw [List.length_append]; omega) d1 (Or.inr rfl)
        refine ⟨⟨by show k < z.1 + 1; omega, by show z.1 + 1 ≤ N; omega, ?_, ?_, d6⟩, s3, 1 + (j2 + 1), W2, fun q => ?_, by show _ ≤ z.1 + 1; omega, ?_, m3, g6.tr r3⟩
        · simp only [List.length_append, List.length_cons, List.length_nil]; omega
        · show 4 * z.2.2.1.length ≤ z.1 + 1 - k; omega
        · rw [← Nat.add_assoc, two, stp2, e3, bN_s]; rfl
        · rw [List.append_assoc] at a3
          exact a3
    rw [if_neg h123]
    rw [if_neg h123, if_neg nty, if_neg n1517, if_neg h18, if_neg h19] at dsp
    have G := m_use (D := D) (B := 500) h0 hN (by omega) ho hk (by omega) hks a m
    refine gB_of hk (fun q => ?_) G (fun z hz => pUse_b hN h0 ho hk htd hz)
    rw [stp, dsp]
    cases mjF (D + 11) 298 [.ref 97, .int (mTT tx n k).2.1] (mjW0 s) with
    | none => rfl
    | some p => obtain ⟨p1, p2⟩ := p; cases p1 <;> rfl
end MJ91
end
section
/-! ===== the reference: a body; what rows are nothing to a reader ===== -/
section MJ92
variable {tx : Nat → Int32} {n b D k o td N : Nat} {s s' : mjSt3} {W : List WF} {os : List Row} {ks : List Nat} {S : List SF}
theorem lB_end (h : MR tx n b s k o W os ks) (m : MS s td []) (hl : os.length < 4990) : ∃ s', (∀ q, lB D (q + 1) s = some (none, mjW0 s')) ∧ MR tx n b s' k o W (os ++ [oOver]) ks ∧ offE b s s' ∧ s'.1 97 = s.1 97 := by
  obtain ⟨s1, e1, a1, r1, f1⟩ := m_order (d := D + 11) h hl 28 (-1) 0 0
  refine ⟨s1, fun q => ?_, a1, r1, f1⟩
  unfold lB
  rw [L279_S]
  unfold b_279_12 b_279_49
  rw [xg_97_61, h.2.1.2.1, if_pos rfl, xg_97_71, m.2.1, if_pos (show nI ([] : List SF).length ≤ 0 by decide), xg_97_61, h.2.1.2.1, if_pos rfl, xV_97, e1, bN_s]
/-- readBody -/
theorem m_body (h0 : (mTT tx n N).1 = 0) (hN : N ≤ 3000) (ho : o ≤ 12) (hk : k ≤ N) (hos : 6 * os.length ≤ 7 * k) (hks : 4 * ks.length ≤ k) (htd : td ≤ 16) (h : MR tx n b s k o W os ks) (ht : s.1 97 67 = nI td) : match prS (mTT tx n) (N + 1) 30 0 o k td (800 * b + ks.length) os.length with
    | .inl e => ∃ s' x, mjF (D + 13) 279 [.ref 97] (mjW0 s) = some (none, mjW0 s') ∧ MZ (mTT tx n) b s' e x ∧ x ≤ 4720 ∧ offS b s s'
    | .inr z => bB N k z ∧ ∃ s' W', mjF (D + 13) 279 [.ref 97] (mjW0 s) = some (none, mjW0 s') ∧ MR tx n b s' z.1 o W' (os ++ (z.2.2.2.1 ++ [oOver])) (ks ++ z.2.2.1) ∧ s'.1 97 67 = nI z.2.1 ∧ offS b s s' := by
  have hmj := mjN_v
  obtain ⟨t0, h0t⟩ : ∃ t, t = uI s 97 (upd (s.1 97) 71 0) := ⟨_, rfl⟩
  have a0 : MR tx n b t0 k o W os ks := by rw [h0t]; exact h.w97 (by omega)
  have m0 : MS t0 td [] := by
    rw [h0t]
    refine ⟨?_, ?_, fun i f hf => ?_⟩
    · rw [uI_same]; exact (if_neg (by decide)).trans ht
    · rw [uI_same]; exact if_pos rfl
    · cases hf
  have o0 : offS b s t0 := by rw [h0t]; exact offG.w (by unfold chS; omega)
  have Bk := blk_ok (d := D + 6) (D := D) (S := []) (o := o) (k := k) (s := t0) (W := W) (os := os) (ks := ks) (td := td) (b := b) (rd := prS (mTT tx n) (N + 1) 29 1 (o + 1)) (0, -1, -1) (by decide) h0 hN (fun h12 k s W os ks td hk hos hks htd a m n1 => st_ok h0 hN 29 (o + 1) [(0, -1, -1)] k s W os ks td (by omega) (by omega) (by show 1 ≤ o + 1; omega) (Nat.le_refl 1) hk hos hks htd a m n1) ho hk hos hks htd a0 m0
  have pre : ∀ t, mjF (D + 12) 280 [.ref 97, .int 0, .int (-1), .int (-1)] (mjW0 t0) = some (none, mjW0 t) → mjF (D + 13) 279 [.ref 97] (mjW0 s) = lB D mjN t := by
    intro t e
    rw [e_279]
    unfold f_279 b_279_0
    rw [xp_97_71, ← h0t, xV_97, e, bN_s]
    rfl
  rw [prS_0, pBlk_in]
  cases hp : pIn (mTT tx n) (N + 1) (prS (mTT tx n) (N + 1) 29 1 (o + 1)) o k td (800 * b + ks.length) os.length with
  | inl e =>
    rw [hp] at Bk
    obtain ⟨t, s2, j, x, g1, g2, g3, g4, g5, g6⟩ := Bk
    refine ⟨s2, x, ?_, g4, g5, o0.tr g6⟩
    rw [pre t g1, show mjN = (mjN - j) + j by omega]
    exact g2 _
  | inr z =>
    rw [hp] at Bk
    obtain ⟨d1, d2, d3, d4, d5, d6, t, s2, j2, W2, g1, g2, g3, g4, g5, g6⟩ := Bk
    obtain ⟨s3, e3, a3, m3, r3⟩ := m_end1 (D := D + 2) (S := []) g4 g5 (by decide) (by rw [List.length_append]; omega) d1 (Or.inl rfl)
    obtain ⟨s4, e4, a4, r4, f4⟩ := lB_end (D := D) a3 m3 (by rw [List.length_append, List.length_append, List.length_singleton]; omega)
    refine ⟨⟨by show k < z.1 + 1; omega, by show z.1 + 1 ≤ N; omega, ?_, ?_, d6⟩, s4, W2, ?_, ?_, ?_, o0.tr (g6.tr (r3.tr (offS_of r4)))⟩
    · simp only [List.length_append, List.length_cons, List.length_nil]; omega
    · show 4 * z.2.2.1.length ≤ z.1 + 1 - k; omega
    · rw [pre t g1, show mjN = ((mjN - j2 - 2) + 1 + 1) + j2 by omega, g2, lB_step g4 g5 (Nat.le_refl 1) (by decide), if_pos d1, e3, bN_s]
      exact e4 _
    · rw [List.append_assoc, List.append_assoc] at a4
      rw [List.append_assoc]
      exact a4
    · rw [f4]; exact m3.1
/-- rows that are nothing to a reader of tokens, KINDS, orders -/
def chRow (h j : Nat) : Prop := (h = 97 ∧ (j = 65 ∨ j = 66 ∨ j = 67 ∨ j = 71)) ∨ (100 ≤ h ∧ h ≤ 120) ∨ (123 ≤ h ∧ h ≤ 135) ∨ (148 ≤ h ∧ h ≤ 150)
def chRowL (h _j : Nat) : Prop := (100 ≤ h ∧ h ≤ 120) ∨ (123 ≤ h ∧ h ≤ 135)
theorem MR.keep (h : MR tx n b s k o W os ks) (r : offG chRow chRowL s s') : MR tx n b s' k o W os ks := by
  obtain ⟨⟨a1, a2⟩, ⟨b1, b2, b3, b4⟩, ⟨c1, c2⟩, ⟨d1, d2⟩, e1, e2⟩ := h
  have q : ∀ x i, ¬ chRow x i → s'.1 x i = s.1 x i := r.1
  have l : ∀ x i, ¬ chRowL x i → s'.2.1 x i = s.2.1 x i := r.2.1
  have q97 : ∀ i, i < 65 ∨ 72 ≤ i → s'.1 97 i = s.1 97 i := fun i hi => q 97 i (by unfold chRow; omega)
  refine ⟨⟨?_, ?_⟩, ⟨b1, ?_, ?_, ?_⟩, ⟨?_, fun i f hf => ?_⟩, ⟨?_, fun i x hx => ?_⟩, ?_, fun i t ht => ?_⟩
  · obtain ⟨p1, p2, p3, p4, p5⟩ := a1
    refine ⟨p1, ?_, ?_, p4, fun i hi => ?_⟩
    · rw [q97 2 (by omega), p2]
    · rw [← p3]; funext i; exact q 98 i (by unfold chRow; omega)
    · rw [l 99 _ (by unfold chRowL; omega)]; exact p5 i hi
  · unfold MT at a2 ⊢
    rw [q97 3 (by omega), q97 4 (by omega), q97 5 (by omega), q97 6 (by omega), l 97 7 (by unfold chRowL; omega)]; exact a2
  · rw [q97 61 (by omega), b2]
  · rw [q97 63 (by omega), b3]
  · rw [q97 64 (by omega), b4]
  · rw [q97 76 (by omega), c1]
  · unfold Wt
    rw [q 151 _ (by unfold chRow; omega), q 152 _ (by unfold chRow; omega), q 153 _ (by unfold chRow; omega), q 154 _ (by unfold chRow; omega), q 182 _ (by unfold chRow; omega)]
    exact c2 i f hf
  · rw [q 122 _ (by unfold chRow; omega), d1]
  · unfold Rw
    rw [q 143 _ (by unfold chRow; omega), q 144 _ (by unfold chRow; omega), q 145 _ (by unfold chRow; omega), q 146 _ (by unfold chRow; omega), l 147 _ (by unfold chRowL; omega)]
    exact d2 i x hx
  · rw [q 121 _ (by unfold chRow; omega), e1]
  · obtain ⟨p1, p2, p3, p4, p5⟩ := e2 i t ht
    refine ⟨p1, ?_, ?_, ?_, fun i hi => ?_⟩
    · rw [l 136 _ (by unfold chRowL; omega), p2]
    · rw [q 137 _ (by unfold chRow; omega), p3]
    · rw [q 138 _ (by unfold chRow; omega), p4]
    · rw [l 140 _ (by unfold chRowL; omega), q 141 _ (by unfold chRow; omega)]; exact p5 i hi
theorem MZ.keep {T : TT} {e : Nat × Nat} {m : Nat} (h : MZ T b s e m) (r : offG chRow chRowL s s') : MZ T b s' e m := by
  obtain ⟨h1, h2, h3, h4, h5, h6⟩ := h
  have q : ∀ x i, ¬ chRow x i → s'.1 x i = s.1 x i := r.1
  exact ⟨h1, h2, by rw [q 97 61 (by unfold chRow; omega), h3], by rw [q 97 62 (by unfold chRow; omega), h4], by rw [q 97 63 (by unfold chRow; omega), h5], by rw [q 122 b (by unfold chRow; omega), h6]⟩
end MJ92
end
section
/-! ===== the reference: PARAMS ===== -/
/-- PARAMS of the MEMBER at M -/
def RP (T : TT) (s : mjSt3) (M : Nat) (l : List (Nat × Nat × Int32)) : Prop := s.1 128 M = nI l.length ∧ ∀ j p, l[j]? = some p → s.1 133 (6 * M + j) = p.2.2 ∧ s.1 134 (6 * M + j) = (T p.2.1).2.1 ∧ s.2.1 135 (6 * M + j) = (T p.2.1).2.2.1
def chPa (b M h j : Nat) : Prop := chE b h j ∨ (h = 128 ∧ j = M) ∨ ((h = 133 ∨ h = 134) ∧ 6 * M ≤ j ∧ j < 6 * M + 6)
def chPaL (b M h j : Nat) : Prop := chEL b h j ∨ (h = 135 ∧ 6 * M ≤ j ∧ j < 6 * M + 6)
def offPa (b M : Nat) : mjSt3 → mjSt3 → Prop := offG (chPa b M) (chPaL b M)
noncomputable def lP (D m M : Nat) (w : Int32) (s : mjSt3) : mjU := L_275_222 (mjF (D + 13)) m 97 (nI M) w (mjW0 s)
theorem L275_S (R : mjR) (m a : Nat) (x y : Int32) (hp : mjH) : L_275_222 R (m + 1) a x y hp = b_275_222 R (L_275_222 R m) a x y hp := rfl
section MJ93
variable {tx : Nat → Int32} {n b D k o N M : Nat} {s s' : mjSt3} {W : List WF} {os : List Row} {ks : List Nat}
theorem offPa_of (h : offE b s s') : offPa b M s s' := offG.mono h (fun _ _ q => Or.inl q) (fun _ _ q => Or.inl q)
theorem RP.off {T : TT} {l : List (Nat × Nat × Int32)} (h : RP T s M l) (r : offE b s s') : RP T s' M l := by
  refine ⟨?_, fun j p hp => ?_⟩
  · rw [r.1 128 M (by unfold chE; omega), h.1]
  · rw [r.1 133 _ (by unfold chE; omega), r.1 134 _ (by unfold chE; omega), r.2.1 135 _ (by unfold chEL; omega)]
    exact h.2 j p hp
theorem idx6 {m : Nat} : (6 : Int32) * nI M + nI m = nI (6 * M + m) := by
  rw [show (6 : Int32) = nI 6 from rfl, pk_mul, nI_add]
/-- a PARAM is put -/
def paS (s : mjSt3) (M len : Nat) (nm : Int64) (at' : Int32) : mjSt3 := uI (uI (uL s 135 (vp_updL (s.2.1 135) (6 * M + len) nm)) 134 (upd (s.1 134) (6 * M + len) at')) 128 (upd (s.1 128) M (nI (len + 1)))
theorem paS_RP {T : TT} {l : List (Nat × Nat × Int32)} {v : Int32} {z a : Nat} (h : RP T s M l) : RP T (paS (uI s 133 (upd (s.1 133) (6 * M + l.length) v)) M l.length (T a).2.2.1 (T a).2.1) M (l ++ [(z, a, v)]) := by
  unfold paS
  refine ⟨?_, fun j p hp => ?_⟩
  · simp [uI_g, upd_g]
  · by_cases e : j = l.length
    · subst e
      rw [List.getElem?_append_right (Nat.le_refl _), Nat.sub_self] at hp
      have ep : (z, a, v) = p := by simpa using hp
      subst ep
      refine ⟨?_, ?_, ?_⟩
      · simp [uI_g, upd_g, uL_i]
      · simp [uI_g, upd_g, uL_i]
      · show vp_updL _ _ _ _ = _
        exact if_pos rfl
    · have hj : j < l.length := by
        have := (List.getElem?_eq_some_iff.mp hp).1
        rw [List.length_append, List.length_singleton] at this; omega
      rw [List.getElem?_append_left hj] at hp
      obtain ⟨p1, p2, p3⟩ := h.2 j p hp
      have e2 : ¬ 6 * M + j = 6 * M + l.length := by omega
      refine ⟨?_, ?_, ?_⟩
      · simp only [uI_g, upd_g, uL_i]
        rw [if_neg (by decide), if_neg (by decide), if_pos trivial, if_neg e2, p1]
      · simp only [uI_g, upd_g, uL_i]
        rw [if_neg (by decide), if_pos trivial, if_neg e2, if_neg (by decide), p2]
      · show vp_updL _ _ _ _ = _
        rw [updL_g, if_neg e2]
        exact p3
theorem paS_off {len : Nat} {nm : Int64} {x : Int32} (hl : len < 6) : offPa b M s (paS s M len nm x) ∧ offG chRow chRowL s (paS s M len nm x) := by
  unfold paS
  refine ⟨((offG.wl (by unfold chPaL; omega)).tr (offG.w (h := 134) (by unfold chPa; omega))).tr (offG.w (h := 128) (by unfold chPa; omega)), ((offG.wl (by unfold chRowL; omega)).tr (offG.w (h := 134) (by unfold chRow; omega))).tr (offG.w (h := 128) (by unfold chRow; omega))⟩
/-- bad, and out -/
theorem p_bad {T : TT} {e : Nat × Nat} {x q : Nat} (z : MZ T b s e x) : b_275_260 (mjF (D + 13)) (L_275_222 (mjF (D + 13)) q) 97 (nI M) (mjW0 s) = some (none, mjW0 s) := by
  unfold b_275_260
  rw [xg_97_61, if_neg z.pos]
/-- no more PARAMS: the ) -/
theorem p_close (h : MR tx n b s k (o + 1) W os ks) : ((mTT tx n k).1 = 41 → ∃ s', (∀ q, lP D (q + 1) M 0 s = b_275_380 (mjF (D + 13)) 97 (nI M) (mjW0 s')) ∧ MR tx n b s' (k + 1) o W os ks ∧ offE b s s') ∧ (¬ (mTT tx n k).1 = 41 → ∃ s', (∀ q, lP D (q + 1) M 0 s = some (none, mjW0 s')) ∧ MZ (mTT tx n) b s' (F2 (mTT tx n) k) os.length ∧ offE b s s') := by
  have pre : ∀ q, lP D (q + 1) M 0 s = bN (mjF (D + 13) 278 [.ref 97, .int 41] (mjW0 s)) (fun hp2 => b_275_380 (mjF (D + 13)) 97 (nI M) hp2) := by
    intro q
    unfold lP
    rw [L275_S]
    unfold b_275_222
    rw [if_pos rfl, xg_97_61, h.2.1.2.1, if_pos rfl, xV_97]
  refine ⟨fun e => ?_, fun e => ?_⟩
  · obtain ⟨s1, e1, a1, r1, f1⟩ := m_closes (d := D + 9) h (c := 41) (by decide) e
    exact ⟨s1, fun q => by rw [pre, e1, bN_s], a1, r1⟩
  · have e1 := m_closesB (d := D + 9) h (c := 41) (by decide) e
    refine ⟨_, fun q => ?_, m_wz h, bS_off _ _⟩
    rw [pre, e1, bN_s]
    unfold b_275_380
    rw [xg_97_61, if_neg (m_wz h).pos]
/-- PARAMS from one on -/
theorem par_ok (h0 : (mTT tx n N).1 = 0) (hN : N ≤ 3000) (hM : M < 800) {ks0 : List Nat} : ∀ (f : Nat) (z : PP) (s : mjSt3) (W : List WF), f + z.2.1.length = 7 → z.2.1.length ≤ 6 → z.1 ≤ N → 4 * (ks0 ++ z.2.2).length ≤ z.1 → MR tx n b s z.1 (o + 1) W os (ks0 ++ z.2.2) → RP (mTT tx n) s M z.2.1 → match pPars (mTT tx n) (800 * b + ks0.length) f z with
    | .inl e => ∃ s' j, (∀ q, lP D (q + j) M 1 s = some (none, mjW0 s')) ∧ j ≤ f + 2 ∧ MZ (mTT tx n) b s' e os.length ∧ offPa b M s s'
    | .inr y => y.1 ≤ N ∧ z.1 + 3 ≤ y.1 ∧ y.2.1.length ≤ 6 ∧ 4 * (ks0 ++ y.2.2).length ≤ y.1 ∧ ∃ s' j W', (∀ q, lP D (q + j) M 1 s = b_275_380 (mjF (D + 13)) 97 (nI M) (mjW0 s')) ∧ j ≤ f + 2 ∧ MR tx n b s' y.1 o W' os (ks0 ++ y.2.2) ∧ RP (mTT tx n) s' M y.2.1 ∧ offPa b M s s'
  | 0, z, s, W, hf, h6, _, _, _, _ => by omega
  | f + 1, z, s, W, hf, h6, hz, hks, a, p => by
    have A := a.at
    have pre : ∀ q, lP D (q + 1) M 1 s = if tyS (mTT tx n z.1).1 = true then (if z.2.1.length = 6 then bN (mjF (D + 13) 268 [.ref 97, .int 3, .int (mTT tx n z.1).2.1] (mjW0 s)) (fun hp8 => b_275_260 (mjF (D + 13)) (L_275_222 (mjF (D + 13)) q) 97 (nI M) hp8) else b_275_260 (mjF (D + 13)) (L_275_222 (mjF (D + 13)) q) 97 (nI M) (mjW0 s)) else bN (mjF (D + 13) 269 [.ref 97] (mjW0 s)) (fun hp9 => b_275_260 (mjF (D + 13)) (L_275_222 (mjF (D + 13)) q) 97 (nI M) hp9) := by
      intro q
      unfold lP
      rw [L275_S]
      unfold b_275_222
      rw [if_neg (show ¬ (1 : Int32) = 0 by decide), xV_97, v_type A, bI_s, i01, xg_97_39, xa_128, if_pos (mj_in_nI hM (by decide)), nI_clamp (by omega), p.1, xg_97_4, A.2.2.1, xV_97, xV_97]
      by_cases e : z.2.1.length = 6
      · rw [if_pos e, if_pos (show nI z.2.1.length = 6 by rw [e]; rfl)]
      · rw [if_neg e, if_neg (show ¬ nI z.2.1.length = 6 from fun q => e ((nI_eq (a := z.2.1.length) (b := 6) (by omega) (by omega)).mp q))]
    unfold pPars
    by_cases ty : tyS (mTT tx n z.1).1 = true
    · by_cases e6 : z.2.1.length = 6
      · rw [if_pos (show tyS (mTT tx n z.1).1 = true ∧ z.2.1.length = 6 from ⟨ty, e6⟩)]
        have z1 := a.z (e := (3, z.1)) (Or.inr (Or.inr rfl))
        refine ⟨_, 1, fun q => ?_, by omega, z1, offPa_of (bS_off _ _)⟩
        rw [pre, if_pos ty, if_pos e6, v_fail a.2.1.2.1, bN_s]
        exact p_bad z1
      · rw [if_neg (show ¬ (tyS (mTT tx n z.1).1 = true ∧ z.2.1.length = 6) from fun q => e6 q.2)]
        have kl : (ks0 ++ z.2.2).length = ks0.length + z.2.2.length := List.length_append
        have Ty := m_type (d := D + 6) a (by omega)
        have body : ∀ q, lP D (q + 1) M 1 s = bI (mjF (D + 13) 277 [.ref 97] (mjW0 s)) (fun v5 hp6 => sI hp6 133 (nI (6 * M + z.2.1.length)) v5 (fun hp7 => gI hp7 97 12 61 (fun v8 => (if v8 ≤ 0 then gI hp7 97 12 3 (fun v9 => (if v9 = (2 : Int32) then gR hp7 97 12 46 (fun v10 => gL hp7 97 12 7 (fun v11 => sL hp7 v10 (nI (6 * M + z.2.1.length)) v11 (fun hp12 => gR hp12 97 12 45 (fun v13 => gI hp12 97 12 4 (fun v14 => sI hp12 v13 (nI (6 * M + z.2.1.length)) v14 (fun hp15 => gR hp15 97 12 39 (fun v16 => aI hp15 v16 (nI M) (fun v17 => sI hp15 v16 (nI M) (v17 + (1 : Int32)) (fun hp18 => rV hp18 97 12 (bN (mjF (D + 13) 262 [.ref 97] hp18) (fun hp19 => rV hp19 97 12 (bI (mjF (D + 13) 271 [.ref 97, .int (44 : Int32)] hp19) (fun v20 hp21 => (if v20 = 0 then b_275_364 (mjF (D + 13)) (L_275_222 (mjF (D + 13)) q) 97 (nI M) v20 hp21 else rV hp21 97 12 (bN (mjF (D + 13) 262 [.ref 97] hp21) (fun hp22 => b_275_364 (mjF (D + 13)) (L_275_222 (mjF (D + 13)) q) 97 (nI M) v20 hp22)))))))))))))))) else rV hp7 97 12 (bN (mjF (D + 13) 269 [.ref 97] hp7) (fun hp23 => some (none, hp23))))) else some (none, hp7))))) := by
          intro q
          rw [pre, if_pos ty, if_neg e6]
          unfold b_275_260
          rw [xg_97_61, a.2.1.2.1, if_pos (show (0 : Int32) ≤ 0 by decide), xg_97_39, xa_128, if_pos (mj_in_nI hM (by decide)), nI_clamp (by omega), p.1, xg_97_44, xV_97, idx6]
        cases ht : pType (mTT tx n) z.1 with
        | inl e =>
          rw [ht] at Ty
          obtain ⟨s1, v, e1, z1, r1⟩ := Ty
          have rk : offG chRow chRowL s1 (uI s1 133 (upd (s1.1 133) (6 * M + z.2.1.length) v)) := offG.w (by unfold chRow; omega)
          have z2 := z1.keep rk
          refine ⟨_, 1, fun q => ?_, by omega, z2, (offPa_of r1).tr (offG.w (by unfold chPa; omega))⟩
          rw [body, e1, bI_s, xs_133, if_pos (mj_in_nI (by omega) (by decide)), nI_clamp (by omega), xg_97_61, if_neg z2.pos]
        | inr c1 =>
          rw [ht] at Ty
          obtain ⟨s1, e1, a1, r1⟩ := Ty
          have hc1 := pType_le hN h0 hz ht
          have hlen := pType_len ht
          obtain ⟨v, hv⟩ : ∃ v, v = tyK (mTT tx n) z.1 (800 * b + ks0.length + z.2.2.length) := ⟨_, rfl⟩
          have e1' : mjF (D + 13) 277 [.ref 97] (mjW0 s) = some (some (.int v), mjW0 s1) := by
            rw [e1, hv, kl, ← Nat.add_assoc]; rfl
          have a1' : MR tx n b s1 c1 (o + 1) W os (ks0 ++ (z.2.2 ++ tyL (mTT tx n) z.1)) := by
            rw [← List.append_assoc]; exact a1
          have p1 := p.off r1
          obtain ⟨t2, h2⟩ : ∃ t, t = uI s1 133 (upd (s1.1 133) (6 * M + z.2.1.length) v) := ⟨_, rfl⟩
          have k2 : offG chRow chRowL s1 t2 := by rw [h2]; exact offG.w (by unfold chRow; omega)
          have o2 : offPa b M s1 t2 := by rw [h2]; exact offG.w (by unfold chPa; omega)
          have a2 := a1'.keep k2
          have S3 := (v_srt a2.at).2.1
          have r02 : offPa b M s t2 := (offPa_of r1).tr o2
          have n128 : t2.1 128 M = nI z.2.1.length := by rw [h2, uI_ne _ _ _ _ (by decide)]; exact p1.1
          have body2 : ∀ q, lP D (q + 1) M 1 s = if (mTT tx n c1).1 = 3 then (bN (mjF (D + 13) 262 [.ref 97] (mjW0 (paS t2 M z.2.1.length (mTT tx n c1).2.2.1 (mTT tx n c1).2.1))) (fun hp19 => rV hp19 97 12 (bI (mjF (D + 13) 271 [.ref 97, .int (44 : Int32)] hp19) (fun v20 hp21 => (if v20 = 0 then b_275_364 (mjF (D + 13)) (L_275_222 (mjF (D + 13)) q) 97 (nI M) v20 hp21 else rV hp21 97 12 (bN (mjF (D + 13) 262 [.ref 97] hp21) (fun hp22 => b_275_364 (mjF (D + 13)) (L_275_222 (mjF (D + 13)) q) 97 (nI M) v20 hp22))))))) else bN (mjF (D + 13) 269 [.ref 97] (mjW0 t2)) (fun hp23 => some (none, hp23)) := by
            intro q
            rw [body, e1', bI_s, xs_133, if_pos (mj_in_nI (by omega) (by decide)), nI_clamp (by omega), ← h2, xg_97_61, a2.2.1.2.1, if_pos (show (0 : Int32) ≤ 0 by decide), xg_97_3]
            by_cases h3 : (mTT tx n c1).1 = 3
            · rw [if_pos h3, if_pos (S3.mpr h3), xg_97_46, xg_97_7, a2.at.2.2.2.2 (Or.inr h3), xs_135, if_pos (mj_in_nI (by omega) (by decide)), nI_clamp (by omega), xg_97_45, xg_97_4, uL_i, a2.at.2.2.1, xs_134, if_pos (mj_in_nI (by omega) (by decide)), nI_clamp (by omega), uL_i, xg_97_39, xa_128, if_pos (mj_in_nI hM (by decide)), nI_clamp (by omega), uI_ne _ _ _ _ (by decide), uL_i, n128, xs_128, if_pos (mj_in_nI hM (by decide)), nI_clamp (by omega), uI_ne _ _ _ _ (by decide), uL_i, nI_1, xV_97]
              rfl
            · rw [if_neg h3, if_neg (fun q => h3 (S3.mp q)), xV_97]
          by_cases h3 : (mTT tx n c1).1 = 3
          · simp only [if_pos h3]
            have hl1 := lt_N hN h0 hc1 h3 (by decide)
            have ko := paS_off (b := b) (M := M) (s := t2) (nm := (mTT tx n c1).2.2.1) (x := (mTT tx n c1).2.1) (show z.2.1.length < 6 by omega)
            have a3 := a2.keep ko.2
            have p3 : RP (mTT tx n) (paS t2 M z.2.1.length (mTT tx n c1).2.2.1 (mTT tx n c1).2.1) M (z.2.1 ++ [(z.1, c1, v)]) := by rw [h2]; exact paS_RP p1
            obtain ⟨s4, e4, a4, r4, f4⟩ := m_next (d := D + 10) a3 (by rw [h3]; decide)
            have p4 := p3.off r4
            have r04 : offPa b M s s4 := r02.tr (ko.1.tr (offPa_of r4))
            have body3 : ∀ q, lP D (q + 1) M 1 s = if (mTT tx n (c1 + 1)).1 = 44 then bN (mjF (D + 13) 262 [.ref 97] (mjW0 s4)) (fun hp22 => L_275_222 (mjF (D + 13)) q 97 (nI M) 1 hp22) else lP D q M 0 s4 := by
              intro q
              rw [body2, if_pos h3, e4, bN_s, xV_97, v_sign a4.at (c := 44) (by decide), bI_s, i01]
              by_cases e : (mTT tx n (c1 + 1)).1 = 44
              · rw [if_pos e, if_pos e, if_pos e, xV_97]; rfl
              · rw [if_neg e, if_neg e, if_neg e]; rfl
            have pl : (z.2.1 ++ [(z.1, c1, v)]).length = z.2.1.length + 1 := by rw [List.length_append, List.length_singleton]
            have tl : 4 * (tyL (mTT tx n) z.1).length + z.1 + 1 ≤ c1 + 1 := by
              unfold tyL
              by_cases e : (mTT tx n z.1).1 = 10
              · rw [if_pos e]; show 4 * 0 + z.1 + 1 ≤ c1 + 1; omega
              · rw [if_neg e]; have := hlen.2 e; show 4 * 1 + z.1 + 1 ≤ c1 + 1; omega
            have kk : 4 * (ks0 ++ (z.2.2 ++ tyL (mTT tx n) z.1)).length ≤ c1 := by
              rw [List.length_append, List.length_append]; omega
            by_cases h44 : (mTT tx n (c1 + 1)).1 = 44
            · simp only [if_pos h44]
              have hl2 := lt_N hN h0 (show c1 + 1 ≤ N from hl1) h44 (by decide)
              obtain ⟨s5, e5, a5, r5, f5⟩ := m_next (d := D + 10) a4 (by rw [h44]; decide)
              have I := par_ok h0 hN hM f (c1 + 2, z.2.1 ++ [(z.1, c1, v)], z.2.2 ++ tyL (mTT tx n) z.1) s5 W (by show f + (z.2.1 ++ [(z.1, c1, v)]).length = 7; omega) (by show (z.2.1 ++ [(z.1, c1, v)]).length ≤ 6; omega) hl2 (by show 4 * (ks0 ++ (z.2.2 ++ tyL (mTT tx n) z.1)).length ≤ c1 + 2; omega) a5 (p4.off r5)
              rw [hv] at I
              have step : ∀ q, lP D (q + 1) M 1 s = lP D q M 1 s5 := fun q => by rw [body3, if_pos h44, e5, bN_s]; rfl
              have r05 : offPa b M s s5 := r04.tr (offPa_of r5)
              cases hp : pPars (mTT tx n) (800 * b + ks0.length) f (c1 + 2, z.2.1 ++ [(z.1, c1, tyK (mTT tx n) z.1 (800 * b + ks0.length + z.2.2.length))], z.2.2 ++ tyL (mTT tx n) z.1) with
              | inl e =>
                rw [hp] at I
                obtain ⟨s6, j, g1, g2, g3, g4⟩ := I
                exact ⟨s6, j + 1, fun q => by rw [← Nat.add_assoc, step]; exact g1 q, by omega, g3, r05.tr g4⟩
              | inr y =>
                rw [hp] at I
                obtain ⟨i1, i2, i3, i4, s6, j, W6, g1, g2, g3, g4, g5⟩ := I
                have i2' : c1 + 2 + 3 ≤ y.1 := i2
                exact ⟨i1, by omega, i3, i4, s6, j + 1, W6, fun q => by rw [← Nat.add_assoc, step]; exact g1 q, by omega, g3, g4, r05.tr g5⟩
            · simp only [if_neg h44]
              obtain ⟨c41, cn⟩ := p_close (D := D) (M := M) a4
              by_cases h41 : (mTT tx n (c1 + 1)).1 = 41
              · simp only [if_pos h41]
                have hl2 := lt_N hN h0 (show c1 + 1 ≤ N from hl1) h41 (by decide)
                obtain ⟨s5, e5, a5, r5⟩ := c41 h41
                refine ⟨hl2, by show z.1 + 3 ≤ c1 + 2; omega, by rw [← hv]; show (z.2.1 ++ [(z.1, c1, v)]).length ≤ 6; omega, by show 4 * (ks0 ++ (z.2.2 ++ tyL (mTT tx n) z.1)).length ≤ c1 + 2; omega, s5, 2, W, fun q => ?_, by omega, a5, ?_, r04.tr (offPa_of r5)⟩
                · rw [show q + 2 = (q + 1) + 1 by omega, body3, if_neg h44, e5]
                · rw [← hv]; exact p4.off r5
              · simp only [if_neg h41]
                obtain ⟨s5, e5, z5, r5⟩ := cn h41
                exact ⟨s5, 2, fun q => by rw [show q + 2 = (q + 1) + 1 by omega, body3, if_neg h44, e5], by omega, z5, r04.tr (offPa_of r5)⟩
          · simp only [if_neg h3]
            refine ⟨_, 1, fun q => ?_, by omega, m_wz a2, r02.tr (offPa_of (bS_off _ _))⟩
            rw [body2, if_neg h3, m_wrong a2, bN_s]
    · rw [if_neg (show ¬ (tyS (mTT tx n z.1).1 = true ∧ z.2.1.length = 6) from fun q => ty q.1)]
      have n10 : ¬ (mTT tx n z.1).1 = 10 := fun e => ty (by rw [e]; decide)
      have n2 : ¬ (mTT tx n z.1).1 = 2 := fun e => ty (by rw [e]; decide)
      have ep : pType (mTT tx n) z.1 = .inl (F2 (mTT tx n) z.1) := by
        unfold pType pKind
        rw [if_neg n10, if_neg n2]
      rw [ep]
      refine ⟨_, 1, fun q => ?_, by omega, m_wz a, offPa_of (bS_off _ _)⟩
      rw [pre, if_neg ty, m_wrong a, bN_s]
      exact p_bad (m_wz a)
end MJ93
end
section
/-! ===== the reference: a MEMBER ===== -/
/-- the MEMBER md lies at M -/
def RM0 (T : TT) (s : mjSt3) (M C : Nat) (md : MD) : Prop := s.1 124 M = nI C ∧ s.1 126 M = md.2.2.2.2.2.2.2 ∧ s.1 127 M = (T md.2.1).2.1 ∧ s.2.1 132 M = (T md.2.1).2.2.1
def RM (T : TT) (s : mjSt3) (M C : Nat) (md : MD) : Prop := RM0 T s M C md ∧ s.1 125 M = (if md.2.2.1 = true then 1 else 0) ∧ RP T s M md.2.2.2.1 ∧ s.1 129 M = (if md.2.2.1 = true then nI md.2.2.2.2.2.2.1 else -1) ∧ s.1 131 M = (if md.2.2.1 = true then nI md.2.2.2.2.2.1 else 0) ∧ md.2.2.2.1.length ≤ 6
def chMm (b M C h j : Nat) : Prop := chS b h j ∨ (h = 97 ∧ j = 66) ∨ (h = 120 ∧ j = b) ∨ (h = 108 ∧ j = C) ∨ (124 ≤ h ∧ h ≤ 131 ∧ j = M) ∨ ((h = 133 ∨ h = 134) ∧ 6 * M ≤ j ∧ j < 6 * M + 6)
def chMmL (b M h j : Nat) : Prop := chEL b h j ∨ (h = 132 ∧ j = M) ∨ (h = 135 ∧ 6 * M ≤ j ∧ j < 6 * M + 6)
def offMm (b M C : Nat) : mjSt3 → mjSt3 → Prop := offG (chMm b M C) (chMmL b M)
section MJ94
variable {tx : Nat → Int32} {n b D k o N M C kk mm : Nat} {s s' : mjSt3} {W : List WF} {os : List Row} {ks : List Nat}
theorem offMm_S (h : offS b s s') : offMm b M C s s' := offG.mono h (fun _ _ q => Or.inl q) (fun _ _ q => Or.inl q)
theorem offMm_E (h : offE b s s') : offMm b M C s s' := offMm_S (offS_of h)
theorem offMm_P (h : offPa b M s s') : offMm b M C s s' := offG.mono h (fun x y q => by
  rcases q with q | q | q
  · exact Or.inl (Or.inl q)
  · unfold chMm; omega
  · unfold chMm; omega) (fun x y q => by
  rcases q with q | q
  · exact Or.inl q
  · unfold chMmL; omega)
theorem RM0.off {T : TT} {md : MD} {A B : Nat → Nat → Prop} (h : RM0 T s M C md) (r : offG A B s s') (h1 : ¬ A 124 M) (h2 : ¬ A 126 M) (h3 : ¬ A 127 M) (h4 : ¬ B 132 M) : RM0 T s' M C md := by
  obtain ⟨p1, p2, p3, p4⟩ := h
  exact ⟨by rw [r.1 _ _ h1, p1], by rw [r.1 _ _ h2, p2], by rw [r.1 _ _ h3, p3], by rw [r.2.1 _ _ h4, p4]⟩
theorem RP.offG {T : TT} {l : List (Nat × Nat × Int32)} {A B : Nat → Nat → Prop} (h : RP T s M l) (r : offG A B s s') (h1 : ¬ A 128 M) (h2 : ∀ j, ¬ A 133 j) (h3 : ∀ j, ¬ A 134 j) (h4 : ∀ j, ¬ B 135 j) : RP T s' M l := by
  refine ⟨?_, fun j p hp => ?_⟩
  · rw [r.1 _ _ h1, h.1]
  · rw [r.1 _ _ (h2 _), r.1 _ _ (h3 _), r.2.1 _ _ (h4 _)]
    exact h.2 j p hp
theorem idx400 {m : Nat} : (400 : Int32) * nI b + nI m = nI (400 * b + m) := by
  rw [show (400 : Int32) = nI 400 from rfl, pk_mul, nI_add]
/-- the rows that a MEMBER's NAME fills -/
def mmS (s : mjSt3) (b M C kk mm : Nat) (nm : Int64) (at' : Int32) : mjSt3 := uI (uI (uI (uI (uL (uI (uI s 120 (upd (s.1 120) b (nI (mm + 1)))) 108 (upd (s.1 108) C (nI (kk + 1)))) 132 (vp_updL (s.2.1 132) M nm)) 127 (upd (s.1 127) M at')) 128 (upd (s.1 128) M 0)) 129 (upd (s.1 129) M (-1))) 131 (upd (s.1 131) M 0)
theorem mmS_off {nm : Int64} {x : Int32} : offMm b M C s (mmS s b M C kk mm nm x) ∧ offG chRow chRowL s (mmS s b M C kk mm nm x) := by
  unfold mmS
  refine ⟨(((((offG.w (by unfold chMm; omega)).tr (offG.w (h := 108) (by unfold chMm; omega))).tr (offG.wl (h := 132) (by unfold chMmL; omega))).tr (offG.w (h := 127) (by unfold chMm; omega))).tr (offG.w (h := 128) (by unfold chMm; omega))).tr ((offG.w (h := 129) (by unfold chMm; omega)).tr (offG.w (h := 131) (by unfold chMm; omega))), (((((offG.w (by unfold chRow; omega)).tr (offG.w (h := 108) (by unfold chRow; omega))).tr (offG.wl (h := 132) (by unfold chRowL; omega))).tr (offG.w (h := 127) (by unfold chRow; omega))).tr (offG.w (h := 128) (by unfold chRow; omega))).tr ((offG.w (h := 129) (by unfold chRow; omega)).tr (offG.w (h := 131) (by unfold chRow; omega)))⟩
theorem mmS_at {nm : Int64} {x : Int32} : (mmS s b M C kk mm nm x).1 120 b = nI (mm + 1) ∧ (mmS s b M C kk mm nm x).1 108 C = nI (kk + 1) ∧ (mmS s b M C kk mm nm x).2.1 132 M = nm ∧ (mmS s b M C kk mm nm x).1 127 M = x ∧ (mmS s b M C kk mm nm x).1 128 M = 0 ∧ (mmS s b M C kk mm nm x).1 129 M = -1 ∧ (mmS s b M C kk mm nm x).1 131 M = 0 ∧ (mmS s b M C kk mm nm x).1 124 = s.1 124 ∧ (mmS s b M C kk mm nm x).1 126 = s.1 126 := by
  unfold mmS
  refine ⟨?_, ?_, ?_, ?_, ?_, ?_, ?_, rfl, rfl⟩
  · simp [uI_g, upd_g, uL_i]
  · simp [uI_g, upd_g, uL_i]
  · show vp_updL _ _ _ _ = _
    exact if_pos rfl
  · simp [uI_g, upd_g, uL_i]
  · simp [uI_g, upd_g, uL_i]
  · simp [uI_g, upd_g, uL_i]
  · simp [uI_g, upd_g, uL_i]
/-- readBody for a METHOD -/
theorem m_meth (h0 : (mTT tx n N).1 = 0) (hN : N ≤ 3000) (hM : M < 800) {l : List (Nat × Nat × Int32)} (hl : l.length ≤ 6) (ho : o ≤ 12) (hk : k ≤ N) (hos : 6 * os.length ≤ 7 * k) (hks : 4 * ks.length ≤ k) (h : MR tx n b s k o W os ks) (p : RP (mTT tx n) s M l) : match prS (mTT tx n) (N + 1) 30 0 o k l.length (800 * b + ks.length) os.length with
    | .inl e => ∃ s' x, b_275_380 (mjF (D + 13)) 97 (nI M) (mjW0 s) = some (none, mjW0 s') ∧ MZ (mTT tx n) b s' e x ∧ x ≤ 4720 ∧ offMm b M C s s'
    | .inr z => bB N k z ∧ ∃ s' W', b_275_380 (mjF (D + 13)) 97 (nI M) (mjW0 s) = some (none, mjW0 s') ∧ MR tx n b s' z.1 o W' (os ++ (z.2.2.2.1 ++ [oOver])) (ks ++ z.2.2.1) ∧ RP (mTT tx n) s' M l ∧ s'.1 129 M = nI os.length ∧ s'.1 131 M = nI z.2.1 ∧ s'.1 125 = s.1 125 ∧ s'.1 120 = s.1 120 ∧ s'.1 108 = s.1 108 ∧ (∀ md, RM0 (mTT tx n) s M C md → RM0 (mTT tx n) s' M C md) ∧ offMm b M C s s' := by
  have hb := h.2.1.1
  obtain ⟨t1, h1⟩ : ∃ t, t = uI s 97 (upd (s.1 97) 66 (nI M)) := ⟨_, rfl⟩
  have k1 : offG chRow chRowL s t1 := by rw [h1]; exact offG.w (by unfold chRow; omega)
  obtain ⟨t2, h2⟩ : ∃ t, t = uI t1 97 (upd (t1.1 97) 67 (nI l.length)) := ⟨_, rfl⟩
  have k2 : offG chRow chRowL t1 t2 := by rw [h2]; exact offG.w (by unfold chRow; omega)
  obtain ⟨t3, h3⟩ : ∃ t, t = uI t2 129 (upd (t2.1 129) M (nI os.length)) := ⟨_, rfl⟩
  have k3 : offG chRow chRowL t2 t3 := by rw [h3]; exact offG.w (by unfold chRow; omega)
  have m1 : offMm b M C s t1 := by rw [h1]; exact offG.w (by unfold chMm; omega)
  have m2 : offMm b M C t1 t2 := by rw [h2]; exact offG.w (by unfold chMm chS; omega)
  have m3 : offMm b M C t2 t3 := by rw [h3]; exact offG.w (by unfold chMm; omega)
  have q1 : ∀ x, ¬ x = 97 → t1.1 x = s.1 x := fun x e => by rw [h1]; exact uI_ne _ _ _ _ e
  have q2 : ∀ x, ¬ x = 97 → t2.1 x = s.1 x := fun x e => by rw [h2, uI_ne _ _ _ _ e, q1 x e]
  have q3 : ∀ x, ¬ x = 97 → ¬ x = 129 → t3.1 x = s.1 x := fun x e e2 => by rw [h3, uI_ne _ _ _ _ e2, q2 x e]
  have l3 : t3.2 = s.2 := by rw [h3, h2, h1]; rfl
  have a1 := h.keep k1
  have a2 := a1.keep k2
  have a3 := a2.keep k3
  have t67 : t3.1 97 67 = nI l.length := by rw [h3, uI_ne _ _ _ _ (by decide), h2, uI_same]; exact if_pos rfl
  have p3 : RP (mTT tx n) t3 M l := by
    unfold RP
    rw [q3 128 (by decide) (by decide), q3 133 (by decide) (by decide), q3 134 (by decide) (by decide), l3]; exact p
  have B := m_body (D := D) h0 hN ho hk hos hks (show l.length ≤ 16 by omega) a3 t67
  have pre : b_275_380 (mjF (D + 13)) 97 (nI M) (mjW0 s) = bN (mjF (D + 13) 279 [.ref 97] (mjW0 t3)) (fun hp11 => gR hp11 97 12 42 (fun v12 => gI hp11 97 12 67 (fun v13 => sI hp11 v12 (nI M) v13 (fun hp14 => some (none, hp14))))) := by
    unfold b_275_380
    rw [xg_97_61, h.2.1.2.1, if_pos (show (0 : Int32) ≤ 0 by decide), xp_97_66, ← h1, xg_97_39, xa_128, if_pos (mj_in_nI hM (by decide)), nI_clamp (by omega), q1 128 (by decide), p.1, xp_97_67, ← h2, xg_97_40, xg_97_33, xg_97_63, a2.2.1.2.2.1, xa_122, if_pos (mj_in_nI (by omega) (by decide)), nI_clamp (by omega), a2.2.2.2.1.1, xs_129, if_pos (mj_in_nI hM (by decide)), nI_clamp (by omega), ← h3, xV_97]
  have m03 : offMm b M C s t3 := m1.tr (m2.tr m3)
  cases hp : prS (mTT tx n) (N + 1) 30 0 o k l.length (800 * b + ks.length) os.length with
  | inl e =>
    rw [hp] at B
    obtain ⟨s4, x, e4, z4, hx, r4⟩ := B
    have k5 : offG chRow chRowL s4 (uI s4 131 (upd (s4.1 131) M (s4.1 97 67))) := offG.w (by unfold chRow; omega)
    refine ⟨_, x, ?_, z4.keep k5, hx, m03.tr ((offMm_S r4).tr (offG.w (by unfold chMm; omega)))⟩
    rw [pre, e4, bN_s, xg_97_42, xg_97_67, xs_131, if_pos (mj_in_nI hM (by decide)), nI_clamp (by omega)]
  | inr z =>
    rw [hp] at B
    obtain ⟨bb, s4, W4, e4, a4, f4, r4⟩ := B
    obtain ⟨t5, h5⟩ : ∃ t, t = uI s4 131 (upd (s4.1 131) M (nI z.2.1)) := ⟨_, rfl⟩
    have k5 : offG chRow chRowL s4 t5 := by rw [h5]; exact offG.w (by unfold chRow; omega)
    have m5 : offMm b M C s4 t5 := by rw [h5]; exact offG.w (by unfold chMm; omega)
    have q4 : ∀ x, 100 ≤ x → x ≤ 120 ∨ (123 ≤ x ∧ x ≤ 135) → s4.1 x = t3.1 x := fun x e e2 => by funext j; exact r4.1 x j (by unfold chS chE; omega)
    have l4 : ∀ x j, x = 132 ∨ x = 135 → s4.2.1 x j = t3.2.1 x j := fun x j e => r4.2.1 x j (by unfold chEL; omega)
    have q5 : ∀ x, ¬ x = 131 → t5.1 x = s4.1 x := fun x e => by rw [h5]; exact uI_ne _ _ _ _ e
    have l5 : t5.2 = s4.2 := by rw [h5]; rfl
    refine ⟨bb, t5, W4, ?_, a4.keep k5, ?_, ?_, ?_, ?_, ?_, ?_, fun md hm => ?_, m03.tr ((offMm_S r4).tr m5)⟩
    · rw [pre, e4, bN_s, xg_97_42, xg_97_67, f4, xs_131, if_pos (mj_in_nI hM (by decide)), nI_clamp (by omega), ← h5]
    · refine ⟨?_, fun j x hx => ?_⟩
      · rw [q5 _ (by decide), q4 128 (by omega) (by omega)]; exact p3.1
      · rw [q5 _ (by decide), q5 _ (by decide), l5, q4 133 (by omega) (by omega), q4 134 (by omega) (by omega), l4 135 _ (by omega)]; exact p3.2 j x hx
    · rw [q5 _ (by decide), q4 129 (by omega) (by omega), h3, uI_same]; exact if_pos rfl
    · rw [h5, uI_same]; exact if_pos rfl
    · rw [q5 _ (by decide), q4 125 (by omega) (by omega), q3 125 (by decide) (by decide)]
    · rw [q5 _ (by decide), q4 120 (by omega) (by omega), q3 120 (by decide) (by decide)]
    · rw [q5 _ (by decide), q4 108 (by omega) (by omega), q3 108 (by decide) (by decide)]
    · unfold RM0 at hm ⊢
      rw [q5 _ (by decide), q5 _ (by decide), q5 _ (by decide), l5, q4 124 (by omega) (by omega), q4 126 (by omega) (by omega), q4 127 (by omega) (by omega), l4 132 _ (by omega), q3 124 (by decide) (by decide), q3 126 (by decide) (by decide), q3 127 (by decide) (by decide), l3]
      exact hm
end MJ94
end
section
/-! ===== the reference: readMember ===== -/
theorem pPars_len {T : TT} {kq : Nat} : ∀ (f : Nat) (z y : PP), pPars T kq f z = .inr y → 4 * y.2.2.length + z.1 ≤ 4 * z.2.2.length + y.1
  | 0, z, y, h => by cases h
  | f + 1, z, y, h => by
    unfold pPars at h
    by_cases g : tyS (T z.1).1 = true ∧ z.2.1.length = 6
    · rw [if_pos g] at h; cases h
    · rw [if_neg g] at h
      cases ht : pType T z.1 with
      | inl e => rw [ht] at h; cases h
      | inr a =>
        rw [ht] at h
        have hlen := pType_len ht
        have tl : 4 * (tyL T z.1).length + z.1 ≤ a := by
          unfold tyL
          by_cases e : (T z.1).1 = 10
          · rw [if_pos e]; show 4 * 0 + z.1 ≤ a; omega
          · rw [if_neg e]; have := hlen.2 e; show 4 * 1 + z.1 ≤ a; omega
        by_cases g3 : (T a).1 = 3
        · simp only [if_pos g3] at h
          by_cases g4 : (T (a + 1)).1 = 44
          · simp only [if_pos g4] at h
            have := pPars_len f _ y h
            simp only [List.length_append] at this
            omega
          · simp only [if_neg g4] at h
            by_cases g5 : (T (a + 1)).1 = 41
            · simp only [if_pos g5] at h
              cases h
              show 4 * (z.2.2 ++ tyL T z.1).length + z.1 ≤ 4 * z.2.2.length + (a + 2)
              rw [List.length_append]; omega
            · simp only [if_neg g5] at h; cases h
        · simp only [if_neg g3] at h; cases h
theorem pParams_len {T : TT} {kq c : Nat} {y : PP} (h : pParams T kq c = .inr y) : 4 * y.2.2.length + c ≤ y.1 := by
  unfold pParams at h
  by_cases g : (T c).1 = 40
  · rw [if_pos g] at h
    by_cases g2 : (T (c + 1)).1 = 41
    · rw [if_pos g2] at h; cases h; show 4 * 0 + c ≤ c + 2; omega
    · rw [if_neg g2] at h
      have := pPars_len _ _ _ h
      have : 4 * y.2.2.length + (c + 1) ≤ 4 * 0 + y.1 := this
      omega
  · rw [if_neg g] at h; cases h
section MJ95
variable {tx : Nat → Int32} {n b D k o N M C kk mm : Nat} {s s' : mjSt3} {W : List WF} {os : List Row} {ks : List Nat}
/-- behind a MEMBER's NAME: a FIELD -/
theorem m_fld (h : MR tx n b s k o W os ks) (hM : M < 800) (h125 : True) : ((mTT tx n k).1 = 59 → ∃ s', b_275_177 (mjF (D + 13)) 97 (nI M) 125 (nI M) 0 (mjW0 s) = some (none, mjW0 s') ∧ MR tx n b s' (k + 1) o W os ks ∧ s'.1 125 M = 0 ∧ offE b (uI s 125 (upd (s.1 125) M 0)) s') ∧ (¬ (mTT tx n k).1 = 59 → ∃ s', b_275_177 (mjF (D + 13)) 97 (nI M) 125 (nI M) 0 (mjW0 s) = some (none, mjW0 s') ∧ MZ (mTT tx n) b s' (F2 (mTT tx n) k) os.length ∧ offE b (uI s 125 (upd (s.1 125) M 0)) s') := by
  obtain ⟨t, ht⟩ : ∃ t, t = uI s 125 (upd (s.1 125) M 0) := ⟨_, rfl⟩
  have kt : offG chRow chRowL s t := by rw [ht]; exact offG.w (by unfold chRow; omega)
  have a := h.keep kt
  have g : t.1 125 M = 0 := by rw [ht, uI_same]; exact if_pos rfl
  have pre : b_275_177 (mjF (D + 13)) 97 (nI M) 125 (nI M) 0 (mjW0 s) = bN (mjF (D + 13) 270 [.ref 97, .int 59] (mjW0 t)) (fun hp8 => some (none, hp8)) := by
    unfold b_275_177
    rw [xs_125, if_pos (mj_in_nI hM (by decide)), nI_clamp (by omega), ← ht, xg_97_36, xa_125, if_pos (mj_in_nI hM (by decide)), nI_clamp (by omega), g, if_pos rfl, xV_97]
  rw [← ht]
  refine ⟨fun e => ?_, fun e => ?_⟩
  · obtain ⟨s1, e1, a1, r1, f1⟩ := m_take (d := D + 9) a (c := 59) (by decide) e
    exact ⟨s1, by rw [pre, e1, bN_s], a1, by rw [r1.1 125 M (by unfold chE; omega), g], r1⟩
  · have e1 := m_takeB (d := D + 9) a (c := 59) (by decide) e
    exact ⟨_, by rw [pre, e1, bN_s], m_wz a, bS_off _ _⟩
/-- behind a MEMBER's NAME: PARAMS and BLOCK -/
theorem m_prm (h0 : (mTT tx n N).1 = 0) (hN : N ≤ 3000) (hM : M < 800) (ho : o < 12) (hk : k ≤ N) (hos : 6 * os.length ≤ 7 * k) (hks : 4 * ks.length ≤ k) (h : MR tx n b s k o W os ks) (p : RP (mTT tx n) s M []) (h40 : (mTT tx n k).1 = 40) : match pParams (mTT tx n) (800 * b + ks.length) k with
    | .inl e => ∃ s' x, b_275_177 (mjF (D + 13)) 97 (nI M) 125 (nI M) 1 (mjW0 s) = some (none, mjW0 s') ∧ MZ (mTT tx n) b s' e x ∧ x ≤ 4720 ∧ offMm b M C s s'
    | .inr y => y.1 ≤ N ∧ k + 2 ≤ y.1 ∧ y.2.1.length ≤ 6 ∧ 4 * (ks ++ y.2.2).length ≤ y.1 ∧ ∃ s' W', b_275_177 (mjF (D + 13)) 97 (nI M) 125 (nI M) 1 (mjW0 s) = b_275_380 (mjF (D + 13)) 97 (nI M) (mjW0 s') ∧ MR tx n b s' y.1 o W' os (ks ++ y.2.2) ∧ RP (mTT tx n) s' M y.2.1 ∧ s'.1 125 M = 1 ∧ s'.1 120 = s.1 120 ∧ s'.1 108 = s.1 108 ∧ (∀ md, RM0 (mTT tx n) s M C md → RM0 (mTT tx n) s' M C md) ∧ offMm b M C s s' := by
  have hmj := mjN_v
  obtain ⟨t, ht⟩ : ∃ t, t = uI s 125 (upd (s.1 125) M 1) := ⟨_, rfl⟩
  have kt : offG chRow chRowL s t := by rw [ht]; exact offG.w (by unfold chRow; omega)
  have mt : offMm b M C s t := by rw [ht]; exact offG.w (by unfold chMm; omega)
  have a := h.keep kt
  have g : t.1 125 M = 1 := by rw [ht, uI_same]; exact if_pos rfl
  have qt : ∀ x, ¬ x = 125 → t.1 x = s.1 x := fun x e => by rw [ht]; exact uI_ne _ _ _ _ e
  have lt : t.2 = s.2 := by rw [ht]; rfl
  have pt : RP (mTT tx n) t M [] := by
    unfold RP
    rw [qt 128 (by decide), qt 133 (by decide), qt 134 (by decide), lt]; exact p
  have hkN := lt_N hN h0 hk h40 (by decide)
  obtain ⟨s1, e1, a1, r1, f1⟩ := m_opens (d := D + 9) a (c := 40) (by decide) h40 ho
  have p1 := pt.off r1
  have pre : b_275_177 (mjF (D + 13)) 97 (nI M) 125 (nI M) 1 (mjW0 s) = if (mTT tx n (k + 1)).1 = 41 then lP D mjN M 0 s1 else lP D mjN M 1 s1 := by
    unfold b_275_177
    rw [xs_125, if_pos (mj_in_nI hM (by decide)), nI_clamp (by omega), ← ht, xg_97_36, xa_125, if_pos (mj_in_nI hM (by decide)), nI_clamp (by omega), g, if_neg (show ¬ (1 : Int32) = 0 by decide), xV_97, e1, bN_s, xg_97_61, a1.2.1.2.1, if_pos rfl, xV_97, v_sign a1.at (c := 41) (by decide), bI_s, i01]
    rfl
  have r01 : offMm b M C s s1 := mt.tr (offMm_E r1)
  have keep : ∀ s2, offPa b M s1 s2 → s2.1 125 M = 1 ∧ s2.1 120 = s.1 120 ∧ s2.1 108 = s.1 108 ∧ (∀ md, RM0 (mTT tx n) s M C md → RM0 (mTT tx n) s2 M C md) := by
    intro s2 r2
    have q : ∀ x j, x = 108 ∨ x = 120 ∨ x = 124 ∨ x = 125 ∨ x = 126 ∨ x = 127 → s2.1 x j = t.1 x j := fun x j e => by
      rw [r2.1 x j (by unfold chPa chE; omega), r1.1 x j (by unfold chE; omega)]
    have l : ∀ j, s2.2.1 132 j = t.2.1 132 j := fun j => by
      rw [r2.2.1 132 j (by unfold chPaL chEL; omega), r1.2.1 132 j (by unfold chEL; omega)]
    refine ⟨?_, ?_, ?_, fun md hm => ?_⟩
    · rw [q 125 M (by omega), g]
    · funext j; rw [q 120 j (by omega), qt 120 (by decide)]
    · funext j; rw [q 108 j (by omega), qt 108 (by decide)]
    · unfold RM0 at hm ⊢
      rw [q 124 M (by omega), q 126 M (by omega), q 127 M (by omega), l, qt 124 (by decide), qt 126 (by decide), qt 127 (by decide), lt]; exact hm
  unfold pParams
  rw [if_pos h40]
  by_cases h41 : (mTT tx n (k + 1)).1 = 41
  · rw [if_pos h41]
    have hl2 := lt_N hN h0 (show k + 1 ≤ N from hkN) h41 (by decide)
    obtain ⟨s2, e2, a2, r2⟩ := (p_close (D := D) (M := M) a1).1 h41
    obtain ⟨x1, x2, x3, x4⟩ := keep s2 (offPa_of r2)
    refine ⟨hl2, Nat.le_refl _, by show 0 ≤ 6; omega, by show 4 * (ks ++ []).length ≤ k + 2; rw [List.append_nil]; omega, s2, W, ?_, ?_, p1.off r2, x1, x2, x3, x4, r01.tr (offMm_E r2)⟩
    · rw [pre, if_pos h41, show mjN = (mjN - 1) + 1 by omega, e2]
    · show MR tx n b s2 (k + 1 + 1) o W os (ks ++ [])
      rw [List.append_nil]; exact a2
  · rw [if_neg h41]
    have I := par_ok (D := D) (ks0 := ks) h0 hN hM 7 (k + 1, [], []) s1 W rfl (by show 0 ≤ 6; omega) hkN (by show 4 * (ks ++ []).length ≤ k + 1; rw [List.append_nil]; omega) (by show MR tx n b s1 (k + 1) (o + 1) W os (ks ++ []); rw [List.append_nil]; exact a1) p1
    cases hp : pPars (mTT tx n) (800 * b + ks.length) 7 (k + 1, [], []) with
    | inl e =>
      rw [hp] at I
      obtain ⟨s2, j, g1, g2, g3, g4⟩ := I
      refine ⟨s2, _, ?_, g3, by omega, r01.tr (offMm_P g4)⟩
      rw [pre, if_neg h41, show mjN = (mjN - j) + j by omega]
      exact g1 _
    | inr y =>
      rw [hp] at I
      obtain ⟨i1, i2, i3, i4, s2, j, W2, g1, g2, g3, g4, g5⟩ := I
      have i2' : k + 1 + 3 ≤ y.1 := i2
      obtain ⟨x1, x2, x3, x4⟩ := keep s2 g5
      refine ⟨i1, by omega, i3, i4, s2, W2, ?_, g3, g4, x1, x2, x3, x4, r01.tr (offMm_P g5)⟩
      rw [pre, if_neg h41, show mjN = (mjN - j) + j by omega]
      exact g1 _
/-- readMember -/
theorem m_mem (h0 : (mTT tx n N).1 = 0) (hN : N ≤ 3000) (hC : C < 32) (hmm : mm < 400) (hkk : kk ≤ 24) (hk : k ≤ N) (hos : 6 * os.length ≤ 7 * k) (hks : 4 * ks.length ≤ k) (h : MR tx n b s k 1 W os ks) (ty : tyS (mTT tx n k).1 = true) (h108 : s.1 108 C = nI kk) (h120 : s.1 120 b = nI mm) : match pMem (mTT tx n) (N + 1) kk k (800 * b + ks.length) os.length with
    | .inl e => ∃ s' x, mjF (D + 14) 275 [.ref 97, .int (nI C)] (mjW0 s) = some (none, mjW0 s') ∧ MZ (mTT tx n) b s' e x ∧ x ≤ 4720 ∧ offMm b (400 * b + mm) C s s'
    | .inr r => k < r.1 ∧ r.1 ≤ N ∧ 6 * r.2.2.2.1.length ≤ 7 * (r.1 - k) ∧ 4 * r.2.2.1.length ≤ r.1 - k ∧ kk < 24 ∧ ∃ s' W', mjF (D + 14) 275 [.ref 97, .int (nI C)] (mjW0 s) = some (none, mjW0 s') ∧ MR tx n b s' r.1 1 W' (os ++ r.2.2.2.1) (ks ++ r.2.2.1) ∧ RM (mTT tx n) s' (400 * b + mm) C r.2.1 ∧ s'.1 108 C = nI (kk + 1) ∧ s'.1 120 b = nI (mm + 1) ∧ offMm b (400 * b + mm) C s s' := by
  have hb := h.2.1.1
  obtain ⟨M, hMe⟩ : ∃ M, M = 400 * b + mm := ⟨_, rfl⟩
  have hM : M < 800 := by omega
  rw [← hMe]
  have A := h.at
  unfold pMem
  by_cases e24 : kk = 24
  · rw [if_pos e24]
    refine ⟨_, _, ?_, h.z (e := (3, k)) (Or.inr (Or.inr rfl)), by omega, offMm_E (bS_off _ _)⟩
    rw [e_275]
    unfold f_275 b_275_0
    rw [xV_97, v_type A, bI_s, i01, if_pos ty, xg_97_19, xa_108, if_pos (mj_in_nI hC (by decide)), nI_clamp (by omega), h108, if_pos (show nI kk = 24 by rw [e24]; rfl), xg_97_4, A.2.2.1, xV_97, v_fail h.2.1.2.1, bN_s]
    rfl
  · rw [if_neg e24]
    obtain ⟨t1, h1⟩ : ∃ t, t = uI s 124 (upd (s.1 124) M (nI C)) := ⟨_, rfl⟩
    have k1 : offG chRow chRowL s t1 := by rw [h1]; exact offG.w (by unfold chRow; omega)
    have m1 : offMm b M C s t1 := by rw [h1]; exact offG.w (by unfold chMm; omega)
    have a1 := h.keep k1
    have q1 : ∀ x, ¬ x = 124 → t1.1 x = s.1 x := fun x e => by rw [h1]; exact uI_ne _ _ _ _ e
    have Ty := m_type (d := D + 6) a1 (by omega)
    have body : mjF (D + 14) 275 [.ref 97, .int (nI C)] (mjW0 s) = bI (mjF (D + 13) 277 [.ref 97] (mjW0 t1)) (fun v12 hp13 => sI hp13 126 (nI M) v12 (fun hp14 => gI hp14 97 12 61 (fun v15 => (if v15 ≤ 0 then gI hp14 97 12 3 (fun v16 => (if v16 = (2 : Int32) then gR hp14 97 12 31 (fun v17 => gI hp14 97 12 63 (fun v18 => aI hp14 v17 v18 (fun v19 => sI hp14 v17 v18 (v19 + (1 : Int32)) (fun hp20 => gR hp20 97 12 19 (fun v21 => aI hp20 v21 (nI C) (fun v22 => sI hp20 v21 (nI C) (v22 + (1 : Int32)) (fun hp23 => gR hp23 97 12 43 (fun v24 => gL hp23 97 12 7 (fun v25 => sL hp23 v24 (nI M) v25 (fun hp26 => gR hp26 97 12 38 (fun v27 => gI hp26 97 12 4 (fun v28 => sI hp26 v27 (nI M) v28 (fun hp29 => gR hp29 97 12 39 (fun v30 => sI hp29 v30 (nI M) (0 : Int32) (fun hp31 => gR hp31 97 12 40 (fun v32 => sI hp31 v32 (nI M) (-1 : Int32) (fun hp33 => gR hp33 97 12 42 (fun v34 => sI hp33 v34 (nI M) (0 : Int32) (fun hp35 => rV hp35 97 12 (bN (mjF (D + 13) 262 [.ref 97] hp35) (fun hp36 => gR hp36 97 12 36 (fun v37 => rV hp36 97 12 (bI (mjF (D + 13) 271 [.ref 97, .int (40 : Int32)] hp36) (fun v38 hp39 => (if v38 = 0 then b_275_177 (mjF (D + 13)) 97 (nI M) v37 (nI M) (0 : Int32) hp39 else b_275_177 (mjF (D + 13)) 97 (nI M) v37 (nI M) (1 : Int32) hp39))))))))))))))))))))))))) else rV hp14 97 12 (bN (mjF (D + 13) 269 [.ref 97] hp14) (fun hp40 => some (none, hp40))))) else some (none, hp14))))) := by
      rw [e_275]
      unfold f_275 b_275_0
      rw [xV_97, v_type A, bI_s, i01, if_pos ty, xg_97_19, xa_108, if_pos (mj_in_nI hC (by decide)), nI_clamp (by omega), h108, if_neg (show ¬ nI kk = 24 from fun q => e24 ((nI_eq (a := kk) (b := 24) (by omega) (by omega)).mp q)), xg_97_63, h.2.1.2.2.1, xg_97_31, xg_97_63, h.2.1.2.2.1, xa_120, if_pos (mj_in_nI (by omega) (by decide)), nI_clamp (by omega), h120, idx400, ← hMe, xg_97_35, xs_124, if_pos (mj_in_nI hM (by decide)), nI_clamp (by omega), ← h1, xg_97_37, xV_97]
    cases ht : pType (mTT tx n) k with
    | inl e =>
      rw [ht] at Ty
      obtain ⟨s2, v, e2, z2, r2⟩ := Ty
      have z3 := z2.keep (s' := uI s2 126 (upd (s2.1 126) M v)) (offG.w (by unfold chRow; omega))
      refine ⟨_, _, ?_, z3, by omega, m1.tr ((offMm_E r2).tr (offG.w (by unfold chMm; omega)))⟩
      rw [body, e2, bI_s, xs_126, if_pos (mj_in_nI hM (by decide)), nI_clamp (by omega), xg_97_61, if_neg z3.pos]
    | inr c1 =>
      rw [ht] at Ty
      obtain ⟨s2, e2, a2, r2⟩ := Ty
      have hc1 := pType_le hN h0 hk ht
      have hlen := pType_len ht
      have tl : 4 * (tyL (mTT tx n) k).length + k + 1 ≤ c1 + 1 := by
        unfold tyL
        by_cases e : (mTT tx n k).1 = 10
        · rw [if_pos e]; show 4 * 0 + k + 1 ≤ c1 + 1; omega
        · rw [if_neg e]; have := hlen.2 e; show 4 * 1 + k + 1 ≤ c1 + 1; omega
      obtain ⟨v, hv⟩ : ∃ v, v = tyK (mTT tx n) k (800 * b + ks.length) := ⟨_, rfl⟩
      have e2' : mjF (D + 13) 277 [.ref 97] (mjW0 t1) = some (some (.int v), mjW0 s2) := by rw [e2, hv]; rfl
      have a2' : MR tx n b s2 c1 1 W os (ks ++ tyL (mTT tx n) k) := a2
      obtain ⟨t3, h3⟩ : ∃ t, t = uI s2 126 (upd (s2.1 126) M v) := ⟨_, rfl⟩
      have k3 : offG chRow chRowL s2 t3 := by rw [h3]; exact offG.w (by unfold chRow; omega)
      have m3 : offMm b M C s2 t3 := by rw [h3]; exact offG.w (by unfold chMm; omega)
      have a3 := a2'.keep k3
      have q3 : ∀ x j, x = 108 ∨ x = 120 ∨ x = 124 → t3.1 x j = t1.1 x j := fun x j e => by
        rw [h3, uI_ne _ _ _ _ (by omega), r2.1 x j (by unfold chE; omega)]
      have g108 : t3.1 108 C = nI kk := by rw [q3 108 C (by omega), q1 108 (by decide), h108]
      have g120 : t3.1 120 b = nI mm := by rw [q3 120 b (by omega), q1 120 (by decide), h120]
      have g124 : t3.1 124 M = nI C := by rw [q3 124 M (by omega), h1, uI_same]; exact if_pos rfl
      have g126 : t3.1 126 M = v := by rw [h3, uI_same]; exact if_pos rfl
      have m03 : offMm b M C s t3 := m1.tr ((offMm_E r2).tr m3)
      have S3 := (v_srt a3.at).2.1
      have ad1 : ∀ x, nI x + (1 : Int32) = nI (x + 1) := fun x => by rw [show (1 : Int32) = nI 1 from rfl, nI_add]
      have body2 : mjF (D + 14) 275 [.ref 97, .int (nI C)] (mjW0 s) = if (mTT tx n c1).1 = 3 then bN (mjF (D + 13) 262 [.ref 97] (mjW0 (mmS t3 b M C kk mm (mTT tx n c1).2.2.1 (mTT tx n c1).2.1))) (fun hp36 => gR hp36 97 12 36 (fun v37 => rV hp36 97 12 (bI (mjF (D + 13) 271 [.ref 97, .int (40 : Int32)] hp36) (fun v38 hp39 => (if v38 = 0 then b_275_177 (mjF (D + 13)) 97 (nI M) v37 (nI M) (0 : Int32) hp39 else b_275_177 (mjF (D + 13)) 97 (nI M) v37 (nI M) (1 : Int32) hp39))))) else bN (mjF (D + 13) 269 [.ref 97] (mjW0 t3)) (fun hp40 => some (none, hp40)) := by
        rw [body, e2', bI_s, xs_126, if_pos (mj_in_nI hM (by decide)), nI_clamp (by omega), ← h3, xg_97_61, a3.2.1.2.1, if_pos (show (0 : Int32) ≤ 0 by decide), xg_97_3]
        by_cases e3 : (mTT tx n c1).1 = 3
        · rw [if_pos e3, if_pos (S3.mpr e3), xg_97_31, xg_97_63, a3.2.1.2.2.1, xa_120, if_pos (mj_in_nI (by omega) (by decide)), nI_clamp (by omega), g120, ad1, xs_120, if_pos (mj_in_nI (by omega) (by decide)), nI_clamp (by omega), xg_97_19, xa_108, if_pos (mj_in_nI hC (by decide)), nI_clamp (by omega), uI_ne _ _ _ _ (by decide), g108, ad1, xs_108, if_pos (mj_in_nI hC (by decide)), nI_clamp (by omega), uI_ne _ _ _ _ (by decide), xg_97_43, xg_97_7, uI_l, uI_l, a3.at.2.2.2.2 (Or.inr e3), xs_132, if_pos (mj_in_nI hM (by decide)), nI_clamp (by omega), uI_l, uI_l, xg_97_38, xg_97_4, uL_i, uI_ne _ _ _ _ (by decide), uI_ne _ _ _ _ (by decide), a3.at.2.2.1, xs_127, if_pos (mj_in_nI hM (by decide)), nI_clamp (by omega), xg_97_39, xs_128, if_pos (mj_in_nI hM (by decide)), nI_clamp (by omega), xg_97_40, xs_129, if_pos (mj_in_nI hM (by decide)), nI_clamp (by omega), xg_97_42, xs_131, if_pos (mj_in_nI hM (by decide)), nI_clamp (by omega), xV_97]
          rfl
        · rw [if_neg e3, if_neg (fun q => e3 (S3.mp q)), xV_97]
      by_cases e3 : (mTT tx n c1).1 = 3
      · simp only [if_pos e3]
        have hl1 := lt_N hN h0 hc1 e3 (by decide)
        have ko := mmS_off (b := b) (M := M) (C := C) (kk := kk) (mm := mm) (s := t3) (nm := (mTT tx n c1).2.2.1) (x := (mTT tx n c1).2.1)
        have ka := mmS_at (b := b) (M := M) (C := C) (kk := kk) (mm := mm) (s := t3) (nm := (mTT tx n c1).2.2.1) (x := (mTT tx n c1).2.1)
        obtain ⟨t4, h4⟩ : ∃ t, t = mmS t3 b M C kk mm (mTT tx n c1).2.2.1 (mTT tx n c1).2.1 := ⟨_, rfl⟩
        rw [← h4] at ko ka body2
        have a4 := a3.keep ko.2
        obtain ⟨s5, e5, a5, r5, f5⟩ := m_next (d := D + 10) a4 (by rw [e3]; decide)
        have m05 : offMm b M C s s5 := m03.tr (ko.1.tr (offMm_E r5))
        have q5 : ∀ x j, x = 108 ∨ x = 120 ∨ (124 ≤ x ∧ x ≤ 131) → s5.1 x j = t4.1 x j := fun x j e => r5.1 x j (by unfold chE; omega)
        have l5 : ∀ j, s5.2.1 132 j = t4.2.1 132 j := fun j => r5.2.1 132 j (by unfold chEL; omega)
        have g5 : s5.1 108 C = nI (kk + 1) ∧ s5.1 120 b = nI (mm + 1) := ⟨by rw [q5 108 C (by omega), ka.2.1], by rw [q5 120 b (by omega), ka.1]⟩
        have rm5 : ∀ md : MD, md.2.1 = c1 → md.2.2.2.2.2.2.2 = v → RM0 (mTT tx n) s5 M C md := by
          intro md hd1 hd2
          refine ⟨?_, ?_, ?_, ?_⟩
          · rw [q5 124 M (by omega), ka.2.2.2.2.2.2.2.1, g124]
          · rw [q5 126 M (by omega), ka.2.2.2.2.2.2.2.2, g126, hd2]
          · rw [q5 127 M (by omega), ka.2.2.2.1, hd1]
          · rw [l5, ka.2.2.1, hd1]
        have p5 : RP (mTT tx n) s5 M [] := ⟨by rw [q5 128 M (by omega), ka.2.2.2.2.1]; rfl, fun j p hp => by cases hp⟩
        have n129 : s5.1 129 M = -1 := by rw [q5 129 M (by omega), ka.2.2.2.2.2.1]
        have n131 : s5.1 131 M = 0 := by rw [q5 131 M (by omega), ka.2.2.2.2.2.2.1]
        have body3 : mjF (D + 14) 275 [.ref 97, .int (nI C)] (mjW0 s) = if (mTT tx n (c1 + 1)).1 = 40 then b_275_177 (mjF (D + 13)) 97 (nI M) 125 (nI M) 1 (mjW0 s5) else b_275_177 (mjF (D + 13)) 97 (nI M) 125 (nI M) 0 (mjW0 s5) := by
          rw [body2, if_pos e3, e5, bN_s, xg_97_36, xV_97, v_sign a5.at (c := 40) (by decide), bI_s, i01]
        by_cases e59 : (mTT tx n (c1 + 1)).1 = 59
        · simp only [if_pos e59]
          have n40 : ¬ (mTT tx n (c1 + 1)).1 = 40 := by rw [e59]; decide
          have hl2 := lt_N hN h0 (show c1 + 1 ≤ N from hl1) e59 (by decide)
          obtain ⟨s6, e6, a6, g6, r6⟩ := (m_fld (D := D) (M := M) a5 hM trivial).1 e59
          obtain ⟨t5, ht5⟩ : ∃ t, t = uI s5 125 (upd (s5.1 125) M 0) := ⟨_, rfl⟩
          rw [← ht5] at r6
          have q6 : ∀ x j, x = 108 ∨ x = 120 ∨ x = 124 ∨ (126 ≤ x ∧ x ≤ 131) → s6.1 x j = s5.1 x j := fun x j e => by
            rw [r6.1 x j (by unfold chE; omega), ht5, uI_ne _ _ _ _ (by omega)]
          have l6 : ∀ j, s6.2.1 132 j = s5.2.1 132 j := fun j => by rw [r6.2.1 132 j (by unfold chEL; omega), ht5]; rfl
          have o5 : offMm b M C s5 t5 := by rw [ht5]; exact offG.w (by unfold chMm; omega)
          refine ⟨by show k < c1 + 2; omega, hl2, by show 6 * 0 ≤ _; omega, by show 4 * (tyL (mTT tx n) k).length ≤ c1 + 2 - k; omega, by omega, s6, W, by rw [body3, if_neg n40, e6], ?_, ⟨?_, ?_, ?_, ?_, ?_, by show 0 ≤ 6; omega⟩, by rw [q6 108 C (by omega), g5.1], by rw [q6 120 b (by omega), g5.2], m05.tr (o5.tr (offMm_E r6))⟩
          · show MR tx n b s6 (c1 + 1 + 1) 1 W (os ++ []) (ks ++ tyL (mTT tx n) k)
            rw [List.append_nil]; exact a6
          · have r := rm5 (k, c1, false, [], 0, 0, 0, tyK (mTT tx n) k (800 * b + ks.length)) rfl hv.symm
            unfold RM0 at r ⊢
            rw [q6 124 M (by omega), q6 126 M (by omega), q6 127 M (by omega), l6]; exact r
          · exact g6
          · exact ⟨by rw [q6 128 M (by omega)]; exact p5.1, fun j p hp => by cases hp⟩
          · rw [q6 129 M (by omega), n129]; rfl
          · rw [q6 131 M (by omega), n131]; rfl
        · simp only [if_neg e59]
          have KL4 : (ks ++ tyL (mTT tx n) k).length = ks.length + (tyL (mTT tx n) k).length := List.length_append
          by_cases e40 : (mTT tx n (c1 + 1)).1 = 40
          · have P := m_prm (D := D) (M := M) (C := C) h0 hN hM (show 1 < 12 by omega) (show c1 + 1 ≤ N from hl1) (show 6 * os.length ≤ 7 * (c1 + 1) by omega) (by rw [KL4]; omega) a5 p5 e40
            rw [KL4, ← Nat.add_assoc] at P
            cases hp : pParams (mTT tx n) (800 * b + ks.length + (tyL (mTT tx n) k).length) (c1 + 1) with
            | inl e =>
              rw [hp] at P
              obtain ⟨s6, x, e6, z6, hx, r6⟩ := P
              exact ⟨s6, x, by rw [body3, if_pos e40, e6], z6, hx, m05.tr r6⟩
            | inr y =>
              rw [hp] at P
              obtain ⟨i1, i2, i3, i4, s6, W6, e6, a6, p6, x1, x2, x3, x4, r6⟩ := P
              have KL6 : (ks ++ tyL (mTT tx n) k ++ y.2.2).length = ks.length + (tyL (mTT tx n) k).length + y.2.2.length := by rw [List.length_append, KL4]
              have Q := m_meth (D := D) (M := M) (C := C) h0 hN hM i3 (show 1 ≤ 12 by omega) i1 (show 6 * os.length ≤ 7 * y.1 by omega) i4 a6 p6
              rw [KL6, ← Nat.add_assoc, ← Nat.add_assoc] at Q
              show match (match prS (mTT tx n) (N + 1) 30 0 1 y.1 y.2.1.length (800 * b + ks.length + (tyL (mTT tx n) k).length + y.2.2.length) os.length with
                | .inl e => .inl e
                | .inr z => .inr (z.1, (k, c1, true, y.2.1, y.1, z.2.1, os.length, tyK (mTT tx n) k (800 * b + ks.length)), tyL (mTT tx n) k ++ y.2.2 ++ z.2.2.1, z.2.2.2.1 ++ [oOver], z.2.2.2.2) : (Nat × Nat) ⊕ PR) with
                | .inl e => _
                | .inr r => _
              cases hz : prS (mTT tx n) (N + 1) 30 0 1 y.1 y.2.1.length (800 * b + ks.length + (tyL (mTT tx n) k).length + y.2.2.length) os.length with
              | inl e =>
                rw [hz] at Q
                obtain ⟨s7, x, e7, z7, hx, r7⟩ := Q
                exact ⟨s7, x, by rw [body3, if_pos e40, e6, e7], z7, hx, m05.tr (r6.tr r7)⟩
              | inr z =>
                rw [hz] at Q
                obtain ⟨⟨b1, b2, b3, b4, b5⟩, s7, W7, e7, a7, p7, c129, c131, c125, c120, c108, cm, r7⟩ := Q
                rw [List.length_append] at i4
                refine ⟨by show k < z.1; omega, b2, ?_, ?_, by omega, s7, W7, by rw [body3, if_pos e40, e6, e7], ?_, ⟨?_, ?_, p7, ?_, ?_, i3⟩, ?_, ?_, m05.tr (r6.tr r7)⟩
                · show 6 * (z.2.2.2.1 ++ [oOver]).length ≤ 7 * (z.1 - k)
                  rw [List.length_append, List.length_singleton]; omega
                · show 4 * (tyL (mTT tx n) k ++ y.2.2 ++ z.2.2.1).length ≤ z.1 - k
                  have pl := pParams_len hp
                  rw [List.length_append, List.length_append]; omega
                · have ka' : ks ++ tyL (mTT tx n) k ++ y.2.2 ++ z.2.2.1 = ks ++ (tyL (mTT tx n) k ++ y.2.2 ++ z.2.2.1) := by simp
                  rw [ka'] at a7
                  exact a7
                · exact cm _ (x4 _ (rm5 (k, c1, true, y.2.1, y.1, z.2.1, os.length, tyK (mTT tx n) k (800 * b + ks.length)) rfl hv.symm))
                · rw [c125, x1]; rfl
                · rw [c129]; rfl
                · rw [c131]; rfl
                · rw [c108, x3, g5.1]
                · rw [c120, x2, g5.2]
          · have ep : pParams (mTT tx n) (800 * b + ks.length + (tyL (mTT tx n) k).length) (c1 + 1) = .inl (F2 (mTT tx n) (c1 + 1)) := by
              unfold pParams
              rw [if_neg e40]
            rw [ep]
            obtain ⟨s6, e6, z6, r6⟩ := (m_fld (D := D) (M := M) a5 hM trivial).2 e59
            refine ⟨s6, _, by rw [body3, if_neg e40, e6], z6, by omega, m05.tr ((offG.w (h := 125) (j := M) (v := 0) (by unfold chMm; omega)).tr (offMm_E r6))⟩
      · simp only [if_neg e3]
        refine ⟨_, _, by rw [body2, if_neg e3, m_wrong a3, bN_s], m_wz a3, by omega, m03.tr (offMm_E (bS_off _ _))⟩
end MJ95
end
section
/-! ===== the reference: NAMES, INS ===== -/
def RN (T : TT) (s : mjSt3) (C c0 k : Nat) : Prop := s.1 104 C = nI k ∧ ∀ j, j < k → s.2.1 111 (5 * C + j) = (T (c0 + 2 * j)).2.2.1 ∧ s.1 112 (5 * C + j) = (T (c0 + 2 * j)).2.1
def chNa (b C h j : Nat) : Prop := chE b h j ∨ (h = 104 ∧ j = C) ∨ (h = 112 ∧ 5 * C ≤ j ∧ j < 5 * C + 5)
def chNaL (b C h j : Nat) : Prop := chEL b h j ∨ (h = 111 ∧ 5 * C ≤ j ∧ j < 5 * C + 5)
def offNa (b C : Nat) : mjSt3 → mjSt3 → Prop := offG (chNa b C) (chNaL b C)
noncomputable def lNa (D m C : Nat) (w : Int32) (s : mjSt3) : mjU := L_267_170 (mjF (D + 14)) m 97 (nI C) w (mjW0 s)
theorem L267_S (R : mjR) (m a : Nat) (x y : Int32) (hp : mjH) : L_267_170 R (m + 1) a x y hp = b_267_170 R (L_267_170 R m) a x y hp := rfl
theorem L267m_S (R : mjR) (m a : Nat) (x : Int32) (hp : mjH) : L_267_371 R (m + 1) a x hp = b_267_371 R (L_267_371 R m) a x hp := rfl
section MJ96
variable {tx : Nat → Int32} {n b D k o N C : Nat} {s s' : mjSt3} {W : List WF} {os : List Row} {ks : List Nat}
theorem offNa_of (h : offE b s s') : offNa b C s s' := offG.mono h (fun _ _ q => Or.inl q) (fun _ _ q => Or.inl q)
theorem RN.off {T : TT} {c0 : Nat} (h : RN T s C c0 k) (r : offE b s s') : RN T s' C c0 k := by
  refine ⟨?_, fun j hj => ?_⟩
  · rw [r.1 104 C (by unfold chE; omega), h.1]
  · rw [r.2.1 111 _ (by unfold chEL; omega), r.1 112 _ (by unfold chE; omega)]; exact h.2 j hj
theorem idxN {c m : Nat} : (5 : Int32) * nI C + nI m = nI (5 * C + m) := by
  rw [show (5 : Int32) = nI 5 from rfl, pk_mul, nI_add]
theorem idxI {m : Nat} : (8 : Int32) * nI C + nI m = nI (8 * C + m) := by
  rw [show (8 : Int32) = nI 8 from rfl, pk_mul, nI_add]
/-- a class's reader, bad -/
theorem cl_bad {T : TT} {e : Nat × Nat} {x : Nat} (z : MZ T b s e x) : L_267_371 (mjF (D + 14)) mjN 97 (nI C) (mjW0 s) = some (none, mjW0 s) := by
  have hmj := mjN_v
  rw [show mjN = (mjN - 1) + 1 by omega, L267m_S]
  unfold b_267_371
  rw [xg_97_61, if_neg z.n0]
  unfold b_267_395
  rw [xg_97_61, if_neg z.n0]
theorem cl_bad3 {T : TT} {e : Nat × Nat} {x : Nat} (z : MZ T b s e x) : b_267_358 (mjF (D + 14)) 97 (nI C) (mjW0 s) = some (none, mjW0 s) := by
  unfold b_267_358
  rw [xg_97_61, if_neg z.n0, cl_bad z]
theorem cl_bad2 {T : TT} {e : Nat × Nat} {x : Nat} (z : MZ T b s e x) : b_267_338 (mjF (D + 14)) 97 (nI C) (mjW0 s) = some (none, mjW0 s) := by
  unfold b_267_338
  rw [xg_97_61, if_neg z.n0, cl_bad3 z]
theorem cl_bad1 {T : TT} {e : Nat × Nat} {x : Nat} (z : MZ T b s e x) : b_267_299 (mjF (D + 14)) 97 (nI C) (mjW0 s) = some (none, mjW0 s) := by
  unfold b_267_299
  rw [xg_97_61, if_neg z.n0, cl_bad2 z]
/-- a NAME is put -/
def naS (s : mjSt3) (C m : Nat) (nm : Int64) (x : Int32) : mjSt3 := uI (uI (uL s 111 (vp_updL (s.2.1 111) (5 * C + m) nm)) 112 (upd (s.1 112) (5 * C + m) x)) 104 (upd (s.1 104) C (nI (m + 1)))
theorem naS_RN {T : TT} {c0 m : Nat} (h : RN T s C c0 m) : RN T (naS s C m (T (c0 + 2 * m)).2.2.1 (T (c0 + 2 * m)).2.1) C c0 (m + 1) := by
  unfold naS
  refine ⟨?_, fun j hj => ?_⟩
  · simp [uI_g, upd_g]
  · by_cases e : j = m
    · subst e
      refine ⟨?_, ?_⟩
      · show vp_updL _ _ _ _ = _
        exact if_pos rfl
      · simp [uI_g, upd_g, uL_i]
    · obtain ⟨p1, p2⟩ := h.2 j (by omega)
      have e2 : ¬ 5 * C + j = 5 * C + m := by omega
      refine ⟨?_, ?_⟩
      · show vp_updL _ _ _ _ = _
        rw [updL_g, if_neg e2]; exact p1
      · simp only [uI_g, upd_g, uL_i]
        rw [if_neg (by decide), if_pos trivial, if_neg e2, p2]
theorem naS_off {m : Nat} {nm : Int64} {x : Int32} (hm : m < 5) : offNa b C s (naS s C m nm x) ∧ offG chRow chRowL s (naS s C m nm x) := by
  unfold naS
  exact ⟨((offG.wl (by unfold chNaL; omega)).tr (offG.w (h := 112) (by unfold chNa; omega))).tr (offG.w (h := 104) (by unfold chNa; omega)), ((offG.wl (by unfold chRowL; omega)).tr (offG.w (h := 112) (by unfold chRow; omega))).tr (offG.w (h := 104) (by unfold chRow; omega))⟩
/-- NAMES from one on -/
theorem nam_ok (h0 : (mTT tx n N).1 = 0) (hN : N ≤ 3000) (hC : C < 32) {c0 : Nat} : ∀ (f m : Nat) (s : mjSt3), f + m = 6 → m ≤ 5 → c0 + 2 * m ≤ N → MR tx n b s (c0 + 2 * m) o W os ks → RN (mTT tx n) s C c0 m → match pNames (mTT tx n) f m (c0 + 2 * m) with
    | .inl e => ∃ s' j, (∀ q, lNa D (q + j) C 1 s = some (none, mjW0 s')) ∧ j ≤ f + 2 ∧ MZ (mTT tx n) b s' e os.length ∧ offNa b C s s'
    | .inr a => a.2 ≤ N ∧ a.2 = c0 + 2 * a.1 ∧ m < a.1 ∧ a.1 ≤ 5 ∧ ∃ s' j, (∀ q, lNa D (q + j) C 1 s = b_267_299 (mjF (D + 14)) 97 (nI C) (mjW0 s')) ∧ j ≤ f + 2 ∧ MR tx n b s' a.2 o W os ks ∧ RN (mTT tx n) s' C c0 a.1 ∧ offNa b C s s'
  | 0, m, s, hf, hm, _, _, _ => by omega
  | f + 1, m, s, hf, hm, hc, a, p => by
    have A := a.at
    have S3 := (v_srt A).2.1
    obtain ⟨c, hce⟩ : ∃ c, c = c0 + 2 * m := ⟨_, rfl⟩
    have pre : ∀ q, lNa D (q + 1) C 1 s = if (mTT tx n (c0 + 2 * m)).1 = 3 then (if m = 5 then bN (mjF (D + 14) 268 [.ref 97, .int 3, .int (mTT tx n (c0 + 2 * m)).2.1] (mjW0 s)) (fun hp7 => b_267_208 (mjF (D + 14)) (L_267_170 (mjF (D + 14)) q) 97 (nI C) hp7) else b_267_208 (mjF (D + 14)) (L_267_170 (mjF (D + 14)) q) 97 (nI C) (mjW0 s)) else bN (mjF (D + 14) 269 [.ref 97] (mjW0 s)) (fun hp8 => b_267_208 (mjF (D + 14)) (L_267_170 (mjF (D + 14)) q) 97 (nI C) hp8) := by
      intro q
      unfold lNa
      rw [L267_S]
      unfold b_267_170
      rw [if_neg (show ¬ (1 : Int32) = 0 by decide), xg_97_3]
      by_cases e3 : (mTT tx n (c0 + 2 * m)).1 = 3
      · rw [if_pos e3, if_pos (S3.mpr e3), xg_97_15, xa_104, if_pos (mj_in_nI hC (by decide)), nI_clamp (by omega), p.1, xg_97_4, A.2.2.1, xV_97]
        by_cases e : m = 5
        · rw [if_pos e, if_pos (show nI m = 5 by rw [e]; rfl)]
        · rw [if_neg e, if_neg (show ¬ nI m = 5 from fun q => e ((nI_eq (a := m) (b := 5) (by omega) (by omega)).mp q))]
      · rw [if_neg e3, if_neg (fun q => e3 (S3.mp q)), xV_97]
    have bad : ∀ (T : TT) (e : Nat × Nat) (x q : Nat) (t : mjSt3), MZ T b t e x → b_267_208 (mjF (D + 14)) (L_267_170 (mjF (D + 14)) q) 97 (nI C) (mjW0 t) = some (none, mjW0 t) := by
      intro T e x q t z
      unfold b_267_208
      rw [xg_97_61, if_neg z.pos]
    unfold pNames
    by_cases e3 : (mTT tx n (c0 + 2 * m)).1 = 3
    · simp only [if_pos e3]
      by_cases e5 : m = 5
      · simp only [if_pos e5]
        have z1 := a.z (e := (3, c0 + 2 * m)) (Or.inr (Or.inr rfl))
        refine ⟨_, 1, fun q => ?_, by omega, z1, offNa_of (bS_off _ _)⟩
        rw [pre, if_pos e3, if_pos e5, v_fail a.2.1.2.1, bN_s]
        exact bad _ _ _ q _ z1
      · simp only [if_neg e5]
        have hl1 := lt_N hN h0 hc e3 (by decide)
        have ko := naS_off (b := b) (C := C) (s := s) (nm := (mTT tx n (c0 + 2 * m)).2.2.1) (x := (mTT tx n (c0 + 2 * m)).2.1) (show m < 5 by omega)
        have p1 := naS_RN p
        obtain ⟨t1, h1⟩ : ∃ t, t = naS s C m (mTT tx n (c0 + 2 * m)).2.2.1 (mTT tx n (c0 + 2 * m)).2.1 := ⟨_, rfl⟩
        rw [← h1] at ko p1
        have a1 := a.keep ko.2
        obtain ⟨s2, e2, a2, r2, f2⟩ := m_next (d := D + 11) a1 (by rw [e3]; decide)
        have p2 := p1.off r2
        have r02 : offNa b C s s2 := ko.1.tr (offNa_of r2)
        have body : ∀ q, lNa D (q + 1) C 1 s = if (mTT tx n (c0 + 2 * m + 1)).1 = 44 then bN (mjF (D + 14) 262 [.ref 97] (mjW0 s2)) (fun hp18 => L_267_170 (mjF (D + 14)) q 97 (nI C) 1 hp18) else lNa D q C 0 s2 := by
          intro q
          rw [pre, if_pos e3, if_neg e5]
          unfold b_267_208
          rw [xg_97_61, a.2.1.2.1, if_pos (show (0 : Int32) ≤ 0 by decide), xg_97_22, xg_97_15, xa_104, if_pos (mj_in_nI hC (by decide)), nI_clamp (by omega), p.1, xg_97_7, A.2.2.2.2 (Or.inr e3), idxN (c := 0), xs_111, if_pos (mj_in_nI (by omega) (by decide)), nI_clamp (by omega), xg_97_23, xg_97_15, xa_104, if_pos (mj_in_nI hC (by decide)), nI_clamp (by omega), uL_i, p.1, xg_97_4, uL_i, A.2.2.1, idxN (c := 0), xs_112, if_pos (mj_in_nI (by omega) (by decide)), nI_clamp (by omega), uL_i, xg_97_15, xa_104, if_pos (mj_in_nI hC (by decide)), nI_clamp (by omega), uI_ne _ _ _ _ (by decide), uL_i, p.1, nI_1, xs_104, if_pos (mj_in_nI hC (by decide)), nI_clamp (by omega), uI_ne _ _ _ _ (by decide), uL_i, xV_97]
          rw [show uI (uI (uL s 111 (vp_updL (s.2.1 111) (5 * C + m) (mTT tx n (c0 + 2 * m)).2.2.1)) 112 (upd (s.1 112) (5 * C + m) (mTT tx n (c0 + 2 * m)).2.1)) 104 (upd (s.1 104) C (nI (m + 1))) = t1 from h1.symm, e2, bN_s, xV_97, v_sign a2.at (c := 44) (by decide), bI_s, i01]
          by_cases e : (mTT tx n (c0 + 2 * m + 1)).1 = 44
          · rw [if_pos e, if_pos e, if_pos e, xV_97]
          · rw [if_neg e, if_neg e, if_neg e]; rfl
        by_cases e44 : (mTT tx n (c0 + 2 * m + 1)).1 = 44
        · simp only [if_pos e44]
          have hl2 := lt_N hN h0 (show c0 + 2 * m + 1 ≤ N from hl1) e44 (by decide)
          obtain ⟨s3, e3', a3, r3, f3⟩ := m_next (d := D + 11) a2 (by rw [e44]; decide)
          have I := nam_ok h0 hN hC f (m + 1) s3 (by omega) (by omega) (show c0 + 2 * (m + 1) ≤ N by omega) a3 (p2.off r3)
          have step : ∀ q, lNa D (q + 1) C 1 s = lNa D q C 1 s3 := fun q => by rw [body, if_pos e44, e3', bN_s]; rfl
          have r03 : offNa b C s s3 := r02.tr (offNa_of r3)
          rw [show c0 + 2 * (m + 1) = c0 + 2 * m + 2 by omega] at I
          cases hp : pNames (mTT tx n) f (m + 1) (c0 + 2 * m + 2) with
          | inl e =>
            rw [hp] at I
            obtain ⟨s6, j, g1, g2, g3, g4⟩ := I
            exact ⟨s6, j + 1, fun q => by rw [← Nat.add_assoc, step]; exact g1 q, by omega, g3, r03.tr g4⟩
          | inr y =>
            rw [hp] at I
            obtain ⟨i1, i2, i3, i4, s6, j, g1, g2, g3, g4, g5⟩ := I
            exact ⟨i1, i2, by omega, i4, s6, j + 1, fun q => by rw [← Nat.add_assoc, step]; exact g1 q, by omega, g3, g4, r03.tr g5⟩
        · simp only [if_neg e44]
          have pre0 : ∀ q, lNa D (q + 1) C 0 s2 = bN (mjF (D + 14) 270 [.ref 97, .int 93] (mjW0 s2)) (fun hp2 => b_267_299 (mjF (D + 14)) 97 (nI C) hp2) := by
            intro q
            unfold lNa
            rw [L267_S]
            unfold b_267_170
            rw [if_pos rfl, xg_97_61, a2.2.1.2.1, if_pos rfl, xV_97]
          by_cases e93 : (mTT tx n (c0 + 2 * m + 1)).1 = 93
          · simp only [if_pos e93]
            have hl2 := lt_N hN h0 (show c0 + 2 * m + 1 ≤ N from hl1) e93 (by decide)
            obtain ⟨s3, e3', a3, r3, f3⟩ := m_take (d := D + 10) a2 (c := 93) (by decide) e93
            refine ⟨hl2, by show c0 + 2 * m + 2 = c0 + 2 * (m + 1); omega, by show m < m + 1; omega, by show m + 1 ≤ 5; omega, s3, 2, fun q => ?_, by omega, a3, p2.off r3, r02.tr (offNa_of r3)⟩
            rw [show q + 2 = (q + 1) + 1 by omega, body, if_neg e44, pre0, e3', bN_s]
          · simp only [if_neg e93]
            have e3' := m_takeB (d := D + 10) a2 (c := 93) (by decide) e93
            refine ⟨_, 2, fun q => ?_, by omega, m_wz a2, r02.tr (offNa_of (bS_off _ _))⟩
            rw [show q + 2 = (q + 1) + 1 by omega, body, if_neg e44, pre0, e3', bN_s, cl_bad1 (m_wz a2)]
    · simp only [if_neg e3]
      refine ⟨_, 1, fun q => ?_, by omega, m_wz a, offNa_of (bS_off _ _)⟩
      rw [pre, if_neg e3, m_wrong a, bN_s]
      exact bad _ _ _ q _ (m_wz a)
end MJ96
end
