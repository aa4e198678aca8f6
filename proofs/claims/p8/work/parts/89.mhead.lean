/-! ===== the reference: if ( E ), while ( E ); the end of a block ===== -/
/-- the front of pGrd -/
def pHd (T : TT) (M o c kq : Nat) : (Nat × Nat) ⊕ PZ :=
  if (T (c + 1)).1 = 40 then (if o = 12 then .inl (3, c + 1) else (match prV T M (o + 1) (c + 2) kq with
    | .inl e => .inl e
    | .inr y => if (T y.1).1 = 41 then .inr y else .inl (F2 T y.1)))
  else .inl (F2 T (c + 1))
theorem pGrd_hd (T : TT) (M : Nat) (bl : Nat → Nat → Nat → Nat → PY) (o c td kq i0 : Nat) : pGrd T M bl o c td kq i0 = (match pHd T M o c kq with
    | .inl e => .inl e
    | .inr y => (match bl (y.1 + 1) td (kq + y.2.2.1.length) (i0 + y.2.2.2.1.length + 1) with
        | .inl e => .inl e
        | .inr z => .inr (y, z))) := by
  unfold pGrd pHd
  by_cases h : (T (c + 1)).1 = 40
  · rw [if_pos h, if_pos h]
    by_cases h2 : o = 12
    · rw [if_pos h2, if_pos h2]
    · rw [if_neg h2, if_neg h2]
      cases prV T M (o + 1) (c + 2) kq with
      | inl e => rfl
      | inr y =>
        by_cases h3 : (T y.1).1 = 41
        · simp only [if_pos h3]
          cases bl (y.1 + 1) td (kq + y.2.2.1.length) (i0 + y.2.2.2.1.length + 1) <;> rfl
        · simp only [if_neg h3]
  · rw [if_neg h, if_neg h]
section MJ89
variable {tx : Nat → Int32} {n b D k o td N B : Nat} {s : mjSt3} {W : List WF} {os : List Row} {ks : List Nat} {S : List SF}
/-- the orders ahead of the E -/
def hdO (T : TT) (k : Nat) : List Row := if (T k).1 = 15 then [oLine T k] else [oLine T k, (2, (T k).2.1, 0, 0, 0)]
theorem hdO_len {T : TT} : 1 ≤ (hdO T k).length ∧ (hdO T k).length ≤ 2 := by
  unfold hdO
  by_cases h : (T k).1 = 15
  · rw [if_pos h]; exact ⟨Nat.le_refl _, by show 1 ≤ 2; omega⟩
  · rw [if_neg h]; exact ⟨by show 1 ≤ 2; omega, Nat.le_refl _⟩
theorem m_head (h0 : (mTT tx n N).1 = 0) (hN : N ≤ 3000) (hB : B ≤ 1400) (ho : o ≤ 12) (hk : k ≤ N) (hos : os.length ≤ B + k) (hks : 4 * ks.length ≤ k) (h : MR tx n b s k o W os ks) (m : MS s td S) (hw : (mTT tx n k).1 = 15 ∨ (mTT tx n k).1 = 17) : match pHd (mTT tx n) (N + 1) o k (800 * b + ks.length) with
    | .inl e => ∃ s' x, b_284_57 (mjF (D + 10)) 97 (mTT tx n k).2.1 (mjW0 s) = some (none, mjW0 s') ∧ MZ (mTT tx n) b s' e x ∧ x ≤ 4710 ∧ offS b s s'
    | .inr y => ∃ s', b_284_57 (mjF (D + 10)) 97 (mTT tx n k).2.1 (mjW0 s) = bN (mjF (D + 10) 280 [.ref 97, .int (if (mTT tx n k).1 = 15 then 2 else 4), .int (nI (os.length + (hdO (mTT tx n) k).length + y.2.2.2.1.length)), .int (nI (os.length + 1))] (mjW0 s')) (fun hp => some (none, hp)) ∧ MR tx n b s' (y.1 + 1) o [] (os ++ hdO (mTT tx n) k ++ y.2.2.2.1 ++ [(21, (mTT tx n k).2.1, 0, 0, 0)]) (ks ++ y.2.2.1) ∧ MS s' td S ∧ offE b s s' := by
  have hb := h.2.1.1
  have hkN : k < N := by
    rcases hw with e | e
    · exact lt_N hN h0 hk e (by decide)
    · exact lt_N hN h0 hk e (by decide)
  have k1 : ¬ (mTT tx n k).1 = 1 := by rcases hw with e | e <;> rw [e] <;> decide
  have HL := hdO_len (T := mTT tx n) (k := k)
  obtain ⟨s1, e1, a1, r1, f1⟩ := m_order (d := D + 9) h (by omega) 1 (mTT tx n k).2.1 0 0
  have L1 : (os ++ [((1 : Int32), (mTT tx n k).2.1, (0 : Int32), (0 : Int32), (0 : Int64))]).length = os.length + 1 := by rw [List.length_append]; rfl
  have w17 : mjF (D + 10) 266 [.ref 97, .int 13] (mjW0 s) = _ := v_word (d := D + 9) h.at (w := 12) (by decide)
  have p17 : nI (12 + 5) = 17 := rfl
  -- up to next()
  have H : ∃ s2, b_284_57 (mjF (D + 10)) 97 (mTT tx n k).2.1 (mjW0 s) = b_284_94 (mjF (D + 10)) 97 (mTT tx n k).2.1 (if (mTT tx n k).1 = 15 then 0 else 1) (nI (os.length + 1)) (mjW0 s2) ∧ MR tx n b s2 k o W (os ++ hdO (mTT tx n) k) ks ∧ offE b s s2 := by
    unfold b_284_57
    rw [xV_97, w17, bI_s, xV_97, e1, bN_s, xg_97_33, xg_97_63, a1.2.1.2.2.1, xa_122, if_pos (mj_in_nI (by omega) (by decide)), nI_clamp (by omega), a1.2.2.2.1.1, L1, p17]
    by_cases e : (mTT tx n k).1 = 15
    · have n17 : ¬ (mTT tx n k).1 = 17 := by rw [e]; decide
      refine ⟨s1, ?_, ?_, r1⟩
      · rw [if_neg n17, if_pos rfl, if_pos e]
      · unfold hdO
        rw [if_pos e]
        exact a1
    · have e17 : (mTT tx n k).1 = 17 := hw.resolve_left e
      obtain ⟨s2, e2, a2, r2, f2⟩ := m_order (d := D + 9) a1 (by rw [L1]; omega) 2 (mTT tx n k).2.1 0 0
      refine ⟨s2, ?_, ?_, r1.tr r2⟩
      · rw [if_pos e17, if_neg (show ¬ (1 : Int32) = 0 by decide), if_neg e, xV_97, e2, bN_s]
      · unfold hdO
        rw [if_neg e]
        rw [List.append_assoc] at a2
        exact a2
  obtain ⟨s2, E2, a2, r2⟩ := H
  have L2 : (os ++ hdO (mTT tx n) k).length = os.length + (hdO (mTT tx n) k).length := List.length_append
  obtain ⟨s3, e3, a3, r3, f3⟩ := m_next (d := D + 7) a2 k1
  have r13 := r2.tr r3
  have bad : ∀ e x s6, MZ (mTT tx n) b s6 e x → b_284_115 (mjF (D + 10)) 97 (mTT tx n k).2.1 (if (mTT tx n k).1 = 15 then 0 else 1) (nI (os.length + 1)) (mjW0 s6) = some (none, mjW0 s6) := by
    intro e x s6 z
    unfold b_284_115
    rw [xg_97_61, if_neg z.n0]
    unfold b_284_128
    rw [xg_97_61, if_neg z.pos]
  rw [E2]
  unfold b_284_94
  rw [xV_97, e3, bN_s, xV_97]
  unfold pHd
  by_cases h40 : (mTT tx n (k + 1)).1 = 40
  · rw [if_pos h40]
    by_cases h12 : o = 12
    · rw [if_pos h12]
      subst h12
      obtain ⟨s4, e4, z4, r4⟩ := m_opens3 (d := D + 6) a3 (c := 40) (by decide) h40
      refine ⟨s4, _, ?_, z4, by rw [L2]; omega, offS_of (r13.tr r4)⟩
      rw [e4, bN_s, xg_97_61, if_neg z4.n0, bad _ _ _ z4]
    · rw [if_neg h12]
      have hk1 : k + 1 < N := lt_N hN h0 hkN h40 (by decide)
      obtain ⟨s4, e4, a4, r4, f4⟩ := m_opens (d := D + 6) a3 (c := 40) (by decide) h40 (by omega)
      have C := m_E (D := D) h0 hN (show B + 100 ≤ 1500 by omega) (show o + 1 ≤ 12 by omega) (show k + 1 + 1 ≤ N from hk1) (by rw [L2]; omega) (by omega) a4
      have r14 := r13.tr r4
      rw [e4, bN_s, xg_97_61, a4.2.1.2.1, if_pos rfl, xV_97]
      have badE : ∀ e, (∃ s' x, mjF (D + 10) 287 [.ref 97] (mjW0 s4) = some (none, mjW0 s') ∧ MZ (mTT tx n) b s' e x ∧ x ≤ 4700 ∧ offE b s4 s') → ∃ s' x, bN (mjF (D + 10) 287 [.ref 97] (mjW0 s4)) (fun hp4 => b_284_115 (mjF (D + 10)) 97 (mTT tx n k).2.1 (if (mTT tx n k).1 = 15 then 0 else 1) (nI (os.length + 1)) hp4) = some (none, mjW0 s') ∧ MZ (mTT tx n) b s' e x ∧ x ≤ 4710 ∧ offS b s s' := by
        rintro e ⟨s7, x, e7, z7, hx, r7⟩
        refine ⟨s7, x, ?_, z7, by omega, offS_of (r14.tr r7)⟩
        rw [e7, bN_s, bad _ _ _ z7]
      cases hd : prV (mTT tx n) (N + 1) (o + 1) (k + 2) (800 * b + ks.length) with
      | inl e =>
        have C' := C
        rw [show k + 1 + 1 = k + 2 from rfl, hd] at C'
        exact badE e C'
      | inr y =>
        have C' := C
        rw [show k + 1 + 1 = k + 2 from rfl, hd] at C'
        obtain ⟨y1, y2, y3⟩ : lnZ (k + 2) 0 y := prE_len 100 0 _ _ _ y (by omega) hd
        have hyN := (prE_le hN h0 (show o + 1 ≤ 12 by omega) (show k + 2 ≤ N from hk1)).1 (by omega) hd
        have L5 : (os ++ hdO (mTT tx n) k ++ y.2.2.2.1).length = os.length + (hdO (mTT tx n) k).length + y.2.2.2.1.length := by rw [List.length_append, L2]
        by_cases hc : isCmp (mTT tx n y.1).1 = true
        · have n41 : ¬ (mTT tx n y.1).1 = 41 := fun e => by rw [e] at hc; exact absurd hc (by decide)
          simp only [if_neg n41]
          exact badE _ (C'.1 hc)
        · obtain ⟨s5, e5, a5, r5, f5⟩ := C'.2 hc
          by_cases h41 : (mTT tx n y.1).1 = 41
          · simp only [if_pos h41]
            obtain ⟨s6, e6, a6, r6, f6⟩ := m_closes (d := D + 6) a5 (c := 41) (by decide) h41
            obtain ⟨s7, e7, a7, r7, f7⟩ := m_order (d := D + 9) a6 (by rw [L5]; omega) 21 (mTT tx n k).2.1 0 0
            have rr := r14.tr (r5.tr (r6.tr r7))
            refine ⟨s7, ?_, a7, m.off rr, rr⟩
            have L7 : (os ++ hdO (mTT tx n) k ++ y.2.2.2.1 ++ [((21 : Int32), (mTT tx n k).2.1, (0 : Int32), (0 : Int32), (0 : Int64))]).length = os.length + (hdO (mTT tx n) k).length + y.2.2.2.1.length + 1 := by rw [List.length_append, L5]; rfl
            have fin : ∀ q : Int32, b_284_155 (mjF (D + 10)) 97 (nI (os.length + 1)) 97 q (mjW0 s7) = bN (mjF (D + 10) 280 [.ref 97, .int q, .int (nI (os.length + (hdO (mTT tx n) k).length + y.2.2.2.1.length)), .int (nI (os.length + 1))] (mjW0 s7)) (fun hp => some (none, hp)) := by
              intro q
              unfold b_284_155
              rw [xg_97_33, xg_97_63, a7.2.1.2.2.1, xa_122, if_pos (mj_in_nI (by omega) (by decide)), nI_clamp (by omega), a7.2.2.2.1.1, L7, nI_pred, xV_97]
            rw [e5, bN_s]
            unfold b_284_115
            rw [xg_97_61, a5.2.1.2.1, if_pos rfl, xV_97, e6, bN_s]
            unfold b_284_128
            rw [xg_97_61, a6.2.1.2.1, if_pos (show (0 : Int32) ≤ 0 by decide), xV_97, e7, bN_s, fin, fin]
            by_cases e : (mTT tx n k).1 = 15
            · rw [if_pos e, if_pos rfl, if_pos e]
            · rw [if_neg e, if_neg (show ¬ (1 : Int32) = 0 by decide), if_neg e]
          · simp only [if_neg h41]
            have e6 := m_closesB (d := D + 6) a5 (c := 41) (by decide) h41
            have z6 := m_wz a5
            refine ⟨_, _, ?_, z6, by rw [L5]; omega, offS_of (r14.tr (r5.tr (bS_off _ _)))⟩
            rw [e5, bN_s]
            unfold b_284_115
            rw [xg_97_61, a5.2.1.2.1, if_pos rfl, xV_97, e6, bN_s]
            unfold b_284_128
            rw [xg_97_61, if_neg z6.pos]
  · rw [if_neg h40]
    have e4 := m_opens2 (d := D + 6) a3 (c := 40) (by decide) h40
    have z4 := m_wz a3
    refine ⟨_, _, ?_, z4, by rw [L2]; omega, offS_of (r13.tr (bS_off _ _))⟩
    rw [e4, bN_s, xg_97_61, if_neg z4.n0, bad _ _ _ z4]
/-- the block's frame is taken off -/
theorem MS.pop {F : SF} (m : MS s td (S ++ [F])) : MS (uI s 97 (upd (s.1 97) 71 (nI S.length))) td S := by
  obtain ⟨p1, p2, p3⟩ := m
  refine ⟨?_, ?_, fun i f hf => ?_⟩
  · rw [uI_same]; exact (if_neg (by decide)).trans p1
  · rw [uI_same]; exact if_pos rfl
  · rw [uI_ne _ _ _ _ (by decide), uI_ne _ _ _ _ (by decide), uI_ne _ _ _ _ (by decide)]
    refine p3 i f ?_
    have hi := (List.getElem?_eq_some_iff.mp hf).1
    rw [List.getElem?_append_left hi]; exact hf
theorem MS.top {F : SF} (m : MS s td (S ++ [F])) : s.1 148 S.length = F.1 ∧ s.1 149 S.length = F.2.1 ∧ s.1 150 S.length = F.2.2 := by
  refine m.2.2 S.length F ?_
  rw [List.getElem?_append_right (Nat.le_refl _), Nat.sub_self]; rfl
/-- endBlock, up to the question what it ends -/
theorem m_end {F : SF} (h : MR tx n b s k (o + 1) W os ks) (m : MS s td (S ++ [F])) (hS : S.length < 16) (hl : os.length < 4980) (e : (mTT tx n k).1 = 125) : ∃ s', mjF (D + 10) 282 [.ref 97] (mjW0 s) = (if F.1 = 4 then bN (mjF (D + 9) 281 [.ref 97, .int 23, .int (-1), .int F.2.2, .int 0] (mjW0 s')) (fun hp32 => gR hp32 97 12 69 (fun v33 => aI hp32 v33 (nI S.length) (fun v34 => rV hp32 97 12 (bN (mjF (D + 9) 283 [.ref 97, .int v34] hp32) (fun hp35 => some (none, hp35)))))) else if F.1 = 2 then bI (mjF (D + 9) 266 [.ref 97, .int 12] (mjW0 s')) (fun v16 hp17 => (if v16 = 0 then gR hp17 97 12 69 (fun v18 => aI hp17 v18 (nI S.length) (fun v19 => rV hp17 97 12 (bN (mjF (D + 9) 283 [.ref 97, .int v19] hp17) (fun hp20 => some (none, hp20))))) else rV hp17 97 12 (bN (mjF (D + 9) 262 [.ref 97] hp17) (fun hp21 => rV hp21 97 12 (bN (mjF (D + 9) 281 [.ref 97, .int 22, .int (-1), .int 0, .int 0] hp21) (fun hp22 => gR hp22 97 12 69 (fun v23 => aI hp22 v23 (nI S.length) (fun v24 => rV hp22 97 12 (bN (mjF (D + 9) 283 [.ref 97, .int v24] hp22) (fun hp25 => gR hp25 97 12 33 (fun v26 => gI hp25 97 12 63 (fun v27 => aI hp25 v26 v27 (fun v28 => rV hp25 97 12 (bN (mjF (D + 9) 280 [.ref 97, .int 3, .int (v28 - 1), .int (-1)] hp25) (fun hp29 => some (none, hp29)))))))))))))))) else if F.1 = 3 then bN (mjF (D + 9) 283 [.ref 97, .int F.2.1] (mjW0 s')) (fun hp15 => some (none, hp15)) else some (none, mjW0 s')) ∧ MR tx n b s' (k + 1) o W (os ++ [(27, (mTT tx n (k + 1)).2.1, 0, 0, 0)]) ks ∧ MS s' td S ∧ offS b s s' ∧ s'.1 148 S.length = F.1 ∧ s'.1 149 S.length = F.2.1 ∧ s'.1 150 S.length = F.2.2 := by
  obtain ⟨s1, e1, a1, r1, f1⟩ := m_closes (d := D + 5) h (c := 125) (by decide) e
  obtain ⟨s2, e2, a2, r2, f2⟩ := m_order (d := D + 8) a1 (by omega) 27 (mTT tx n (k + 1)).2.1 0 0
  have m2 := m.off (r1.tr r2)
  have t2 := m2.top
  have SL : (S ++ [F]).length = S.length + 1 := by rw [List.length_append]; rfl
  obtain ⟨t3, h3⟩ : ∃ t, t = uI s2 97 (upd (s2.1 97) 71 (nI S.length)) := ⟨_, rfl⟩
  have m3 : MS t3 td S := by rw [h3]; exact m2.pop
  have a3 : MR tx n b t3 (k + 1) o W (os ++ [(27, (mTT tx n (k + 1)).2.1, 0, 0, 0)]) ks := by rw [h3]; exact a2.w97 (by omega)
  have o3 : offS b s2 t3 := by rw [h3]; exact offG.w (by unfold chS; omega)
  have g3 : t3.1 148 S.length = F.1 ∧ t3.1 149 S.length = F.2.1 ∧ t3.1 150 S.length = F.2.2 := by
    rw [h3, uI_ne _ _ _ _ (by decide), uI_ne _ _ _ _ (by decide), uI_ne _ _ _ _ (by decide)]; exact t2
  refine ⟨t3, ?_, a3, m3, (offS_of (r1.tr r2)).tr o3, g3⟩
  rw [e_282]
  unfold f_282 b_282_0
  have nn : nI (S ++ [F]).length - 1 = nI S.length := by rw [SL, nI_pred]
  rw [xV_97, e1, bN_s, xg_97_4, a1.at.2.2.1, xV_97, e2, bN_s, xg_97_71, m2.2.1, nn, xp_97_71, ← h3, xg_97_71, m3.2.1, xg_97_68, xa_148, if_pos (mj_in_nI (by omega) (by decide)), nI_clamp (by omega), g3.1]
  by_cases e4 : F.1 = 4
  · rw [if_pos e4, if_pos e4, xg_97_70, xa_150, if_pos (mj_in_nI (by omega) (by decide)), nI_clamp (by omega), g3.2.2, xV_97]
  · rw [if_neg e4, if_neg e4, xg_97_68, xa_148, if_pos (mj_in_nI (by omega) (by decide)), nI_clamp (by omega), g3.1]
    by_cases e5 : F.1 = 2
    · rw [if_pos e5, if_pos e5, xV_97]
    · rw [if_neg e5, if_neg e5, xg_97_68, xa_148, if_pos (mj_in_nI (by omega) (by decide)), nI_clamp (by omega), g3.1]
      by_cases e6 : F.1 = 3
      · rw [if_pos e6, if_pos e6, xg_97_69, xa_149, if_pos (mj_in_nI (by omega) (by decide)), nI_clamp (by omega), g3.2.1, xV_97]
      · rw [if_neg e6, if_neg e6]
/-- a plain block or a body ends -/
theorem m_end1 {F : SF} (h : MR tx n b s k (o + 1) W os ks) (m : MS s td (S ++ [F])) (hS : S.length < 16) (hl : os.length < 4980) (e : (mTT tx n k).1 = 125) (hF : F.1 = 0 ∨ F.1 = 1) : ∃ s', mjF (D + 10) 282 [.ref 97] (mjW0 s) = some (none, mjW0 s') ∧ MR tx n b s' (k + 1) o W (os ++ [(27, (mTT tx n (k + 1)).2.1, 0, 0, 0)]) ks ∧ MS s' td S ∧ offS b s s' := by
  obtain ⟨s1, e1, a1, m1, r1, g1⟩ := m_end (D := D) h m hS hl e
  refine ⟨s1, ?_, a1, m1, r1⟩
  have q : ¬ F.1 = 4 ∧ ¬ F.1 = 2 ∧ ¬ F.1 = 3 := by rcases hF with q | q <;> rw [q] <;> decide
  rw [e1, if_neg q.1, if_neg q.2.1, if_neg q.2.2]
/-- toHere over an order -/
theorem set_mid : ∀ (A C : List Row) (r x : Row), (A ++ r :: C).set A.length x = A ++ x :: C
  | [], _, _, _ => rfl
  | a :: t, C, r, x => by
    show a :: ((t ++ r :: C).set t.length x) = _
    rw [set_mid t C r x]; rfl
theorem get_mid : ∀ (A C : List Row) (r : Row), (A ++ r :: C)[A.length]? = some r
  | [], _, _ => rfl
  | a :: t, C, r => by
    show (t ++ r :: C)[t.length]? = _
    exact get_mid t C r
theorem m_here2 {A C : List Row} {w p v x : Int32} {y : Int64} (h : MR tx n b s k o W (A ++ (w, p, v, x, y) :: C) ks) (hl : (A ++ (w, p, v, x, y) :: C).length < 4990) : ∃ s', mjF (D + 1) 283 [.ref 97, .int (nI A.length)] (mjW0 s) = some (none, mjW0 s') ∧ MR tx n b s' k o W (A ++ (w, p, nI (A ++ (w, p, v, x, y) :: C).length, x, y) :: C) ks ∧ offE b s s' := by
  obtain ⟨s1, e1, a1, r1⟩ := m_here (d := D) h hl (get_mid A C _)
  rw [set_mid] at a1
  exact ⟨s1, e1, a1, r1⟩
/-- a while's block ends -/
theorem m_end4 {A C : List Row} {p z : Int32} (h : MR tx n b s k (o + 1) W (A ++ (21, p, 0, 0, 0) :: C) ks) (m : MS s td (S ++ [(4, nI A.length, z)])) (hS : S.length < 16) (hl : A.length + C.length < 4970) (e : (mTT tx n k).1 = 125) : ∃ s', mjF (D + 10) 282 [.ref 97] (mjW0 s) = some (none, mjW0 s') ∧ MR tx n b s' (k + 1) o W (A ++ (21, p, nI (A.length + C.length + 3), 0, 0) :: (C ++ [(27, (mTT tx n (k + 1)).2.1, 0, 0, 0), (23, -1, z, 0, 0)])) ks ∧ MS s' td S ∧ offS b s s' := by
  have LA : (A ++ ((21 : Int32), p, (0 : Int32), (0 : Int32), (0 : Int64)) :: C).length = A.length + (C.length + 1) := by rw [List.length_append]; rfl
  obtain ⟨s1, e1, a1, m1, r1, g1⟩ := m_end (D := D) h m hS (by omega) e
  obtain ⟨s2, e2, a2, r2, f2⟩ := m_order (d := D + 8) a1 (by rw [List.length_append, LA]; show _ + 1 < _; omega) 23 (-1) z 0
  have a2' : MR tx n b s2 (k + 1) o W (A ++ (21, p, 0, 0, 0) :: (C ++ [(27, (mTT tx n (k + 1)).2.1, 0, 0, 0), (23, -1, z, 0, 0)])) ks := by
    rw [List.append_assoc, List.append_assoc, List.cons_append] at a2
    exact a2
  have LB : (A ++ ((21 : Int32), p, (0 : Int32), (0 : Int32), (0 : Int64)) :: (C ++ [((27 : Int32), (mTT tx n (k + 1)).2.1, (0 : Int32), (0 : Int32), (0 : Int64)), (23, -1, z, 0, 0)])).length = A.length + C.length + 3 := by
    simp only [List.length_append, List.length_cons, List.length_nil]; omega
  obtain ⟨s3, e3, a3, r3⟩ := m_here2 (D := D + 8) a2' (by rw [LB]; omega)
  rw [LB] at a3
  have q2 : s2.1 149 S.length = nI A.length := by
    rw [r2.1 149 _ (by unfold chE; omega)]; exact g1.2.1
  refine ⟨s3, ?_, a3, m1.off (r2.tr r3), r1.tr (offS_of (r2.tr r3))⟩
  rw [e1, if_pos rfl, e2, bN_s, xg_97_69, xa_149, if_pos (mj_in_nI (by omega) (by decide)), nI_clamp (by omega), q2, xV_97, e3, bN_s]
/-- an if's block ends, no else -/
theorem m_end2 {A C : List Row} {p z : Int32} (h : MR tx n b s k (o + 1) W (A ++ (21, p, 0, 0, 0) :: C) ks) (m : MS s td (S ++ [(2, nI A.length, z)])) (hS : S.length < 16) (hl : A.length + C.length < 4970) (e : (mTT tx n k).1 = 125) (h16 : ¬ (mTT tx n (k + 1)).1 = 16) : ∃ s', mjF (D + 10) 282 [.ref 97] (mjW0 s) = some (none, mjW0 s') ∧ MR tx n b s' (k + 1) o W (A ++ (21, p, nI (A.length + C.length + 2), 0, 0) :: (C ++ [(27, (mTT tx n (k + 1)).2.1, 0, 0, 0)])) ks ∧ MS s' td S ∧ offS b s s' := by
  have LA : (A ++ ((21 : Int32), p, (0 : Int32), (0 : Int32), (0 : Int64)) :: C).length = A.length + (C.length + 1) := by rw [List.length_append]; rfl
  obtain ⟨s1, e1, a1, m1, r1, g1⟩ := m_end (D := D) h m hS (by omega) e
  have a2' : MR tx n b s1 (k + 1) o W (A ++ (21, p, 0, 0, 0) :: (C ++ [(27, (mTT tx n (k + 1)).2.1, 0, 0, 0)])) ks := by
    rw [List.append_assoc, List.cons_append] at a1
    exact a1
  have LB : (A ++ ((21 : Int32), p, (0 : Int32), (0 : Int32), (0 : Int64)) :: (C ++ [((27 : Int32), (mTT tx n (k + 1)).2.1, (0 : Int32), (0 : Int32), (0 : Int64))])).length = A.length + C.length + 2 := by
    simp only [List.length_append, List.length_cons, List.length_nil]; omega
  obtain ⟨s3, e3, a3, r3⟩ := m_here2 (D := D + 8) a2' (by rw [LB]; omega)
  rw [LB] at a3
  have w16 : mjF (D + 9) 266 [.ref 97, .int 12] (mjW0 s1) = _ := v_word (d := D + 8) a1.at (w := 11) (by decide)
  refine ⟨s3, ?_, a3, m1.off r3, r1.tr (offS_of r3)⟩
  rw [e1, if_neg (show ¬ (2 : Int32) = 4 by decide), if_pos rfl, w16, bI_s, i01, if_neg (show ¬ (mTT tx n (k + 1)).1 = nI (11 + 5) from h16), xg_97_69, xa_149, if_pos (mj_in_nI (by omega) (by decide)), nI_clamp (by omega), g1.2.1, xV_97, e3, bN_s]
/-- an if's block ends, else -/
theorem m_end2e {A C : List Row} {p z : Int32} (h : MR tx n b s k (o + 1) W (A ++ (21, p, 0, 0, 0) :: C) ks) (m : MS s td (S ++ [(2, nI A.length, z)])) (hS : S.length < 16) (hl : A.length + C.length < 4970) (e : (mTT tx n k).1 = 125) (h16 : (mTT tx n (k + 1)).1 = 16) : ∃ s', mjF (D + 10) 282 [.ref 97] (mjW0 s) = bN (mjF (D + 9) 280 [.ref 97, .int 3, .int (nI (A.length + C.length + 2)), .int (-1)] (mjW0 s')) (fun hp => some (none, hp)) ∧ MR tx n b s' (k + 2) o W (A ++ (21, p, nI (A.length + C.length + 3), 0, 0) :: (C ++ [(27, (mTT tx n (k + 1)).2.1, 0, 0, 0), (22, -1, 0, 0, 0)])) ks ∧ MS s' td S ∧ offS b s s' := by
  have hb := h.2.1.1
  have LA : (A ++ ((21 : Int32), p, (0 : Int32), (0 : Int32), (0 : Int64)) :: C).length = A.length + (C.length + 1) := by rw [List.length_append]; rfl
  obtain ⟨s1, e1, a1, m1, r1, g1⟩ := m_end (D := D) h m hS (by omega) e
  obtain ⟨s2, e2, a2, r2, f2⟩ := m_next (d := D + 6) a1 (by rw [h16]; decide)
  obtain ⟨s3, e3, a3, r3, f3⟩ := m_order (d := D + 8) a2 (by rw [List.length_append, LA]; show _ + 1 < _; omega) 22 (-1) 0 0
  have a3' : MR tx n b s3 (k + 2) o W (A ++ (21, p, 0, 0, 0) :: (C ++ [(27, (mTT tx n (k + 1)).2.1, 0, 0, 0), (22, -1, 0, 0, 0)])) ks := by
    rw [List.append_assoc, List.append_assoc, List.cons_append] at a3
    exact a3
  have LB : ∀ v : Int32, (A ++ ((21 : Int32), p, v, (0 : Int32), (0 : Int64)) :: (C ++ [((27 : Int32), (mTT tx n (k + 1)).2.1, (0 : Int32), (0 : Int32), (0 : Int64)), (22, -1, 0, 0, 0)])).length = A.length + C.length + 3 := by
    intro v; simp only [List.length_append, List.length_cons, List.length_nil]; omega
  obtain ⟨s4, e4, a4, r4⟩ := m_here2 (D := D + 8) a3' (by rw [LB]; omega)
  rw [LB] at a4
  have r23 := r2.tr r3
  have q3 : s3.1 149 S.length = nI A.length := by
    rw [r23.1 149 _ (by unfold chE; omega)]; exact g1.2.1
  have w16 : mjF (D + 9) 266 [.ref 97, .int 12] (mjW0 s1) = _ := v_word (d := D + 8) a1.at (w := 11) (by decide)
  refine ⟨s4, ?_, a4, m1.off (r23.tr r4), r1.tr (offS_of (r23.tr r4))⟩
  have nn : nI (A.length + C.length + 3) - 1 = nI (A.length + C.length + 2) := nI_pred _
  rw [e1, if_neg (show ¬ (2 : Int32) = 4 by decide), if_pos rfl, w16, bI_s, i01, if_pos (show (mTT tx n (k + 1)).1 = nI (11 + 5) from h16), xV_97, e2, bN_s, xV_97, e3, bN_s, xg_97_69, xa_149, if_pos (mj_in_nI (by omega) (by decide)), nI_clamp (by omega), q3, xV_97, e4, bN_s, xg_97_33, xg_97_63, a4.2.1.2.2.1, xa_122, if_pos (mj_in_nI (by omega) (by decide)), nI_clamp (by omega), a4.2.2.2.1.1, LB, nn, xV_97]
/-- an else's block ends -/
theorem m_end3 {A C : List Row} {z : Int32} (h : MR tx n b s k (o + 1) W (A ++ (22, -1, 0, 0, 0) :: C) ks) (m : MS s td (S ++ [(3, nI A.length, z)])) (hS : S.length < 16) (hl : A.length + C.length < 4970) (e : (mTT tx n k).1 = 125) : ∃ s', mjF (D + 10) 282 [.ref 97] (mjW0 s) = some (none, mjW0 s') ∧ MR tx n b s' (k + 1) o W (A ++ (22, -1, nI (A.length + C.length + 2), 0, 0) :: (C ++ [(27, (mTT tx n (k + 1)).2.1, 0, 0, 0)])) ks ∧ MS s' td S ∧ offS b s s' := by
  have LA : (A ++ ((22 : Int32), (-1 : Int32), (0 : Int32), (0 : Int32), (0 : Int64)) :: C).length = A.length + (C.length + 1) := by rw [List.length_append]; rfl
  obtain ⟨s1, e1, a1, m1, r1, g1⟩ := m_end (D := D) h m hS (by omega) e
  have a2' : MR tx n b s1 (k + 1) o W (A ++ (22, -1, 0, 0, 0) :: (C ++ [(27, (mTT tx n (k + 1)).2.1, 0, 0, 0)])) ks := by
    rw [List.append_assoc, List.cons_append] at a1
    exact a1
  have LB : (A ++ ((22 : Int32), (-1 : Int32), (0 : Int32), (0 : Int32), (0 : Int64)) :: (C ++ [((27 : Int32), (mTT tx n (k + 1)).2.1, (0 : Int32), (0 : Int32), (0 : Int64))])).length = A.length + C.length + 2 := by
    simp only [List.length_append, List.length_cons, List.length_nil]; omega
  obtain ⟨s3, e3, a3, r3⟩ := m_here2 (D := D + 8) a2' (by rw [LB]; omega)
  rw [LB] at a3
  refine ⟨s3, ?_, a3, m1.off r3, r1.tr (offS_of r3)⟩
  rw [e1, if_neg (show ¬ (3 : Int32) = 4 by decide), if_neg (show ¬ (3 : Int32) = 2 by decide), if_pos rfl, e3, bN_s]
end MJ89
