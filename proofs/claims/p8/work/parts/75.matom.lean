/-! ===== the reference: ATOMS, and what stands behind them ===== -/
section MJ75
variable {tx : Nat → Int32} {n b D k o q l m : Nat} {s s' : mjSt3} {W : List WF} {f : WF} {os : List Row} {ks : List Nat}
/-- one round goes from s to s' -/
def step1 (D : Nat) (w : Int32) (s : mjSt3) (w' : Int32) (s' : mjSt3) : Prop := ∀ m, lE D (m + 1) w s = lE D m w' s'
/-- no E begins here -/
theorem a_not (h : MR tx n b s k o (W ++ [f]) os ks) (hl : W.length < 64) (hv : isVal (mTT tx n k).1 = false) : ∀ m, lE (D + 8) (m + 2) 1 s = some (none, mjW0 (bS s (nI (F2 (mTT tx n) k).1) ((mTT tx n) (F2 (mTT tx n) k).2).2.1)) := by
  intro m
  rw [lE_1 h hl, e_289]
  unfold f_289 b_289_0
  rw [xV_97, v_begins h.at, bI_s, i01, hv, if_neg (show ¬ false = true by decide), xV_97, m_wrong h, bN_s, bI_s]
  exact lE_z (m_wz h) 1
theorem a_num (h : MR tx n b s k o (W ++ [f]) os ks) (hl : W.length < 64) (ho : os.length < 4990) (e : (mTT tx n k).1 = 4) : ∃ s', step1 (D + 8) 1 s 0 s' ∧ MR tx n b s' (k + 1) o (W ++ [f]) (os ++ [(3, (mTT tx n k).2.1, (mTT tx n k).2.2.2, 0, 0)]) ks ∧ offE b s s' ∧ s'.1 97 77 = 0 := by
  have A := h.at
  have S := v_srt A
  have hv : isVal (mTT tx n k).1 = true := by rw [e]; decide
  have a1 := h.w97 (j := 77) (v := 0) (by omega)
  obtain ⟨s2, e2, a2, r2, f2⟩ := m_order (d := D + 7) a1 ho 3 (mTT tx n k).2.1 (mTT tx n k).2.2.2 0
  obtain ⟨s3, e3, a3, r3, f3⟩ := m_next (d := D + 5) a2 (by rw [e]; decide)
  refine ⟨s3, fun m => ?_, a3, (w97_off (by omega)).tr (r2.tr r3), ?_⟩
  · have A1 := a1.at
    have S1 := v_srt A1
    have nb : (uI s 97 (upd (s.1 97) 77 0)).1 97 6 = (mTT tx n k).2.2.2 := by
      rw [A1.2.2.2.1 (Or.inl (by rw [← A1.2.1]; exact S1.2.2.1.mpr e)), e]; rfl
    rw [lE_1 h hl, e_289]
    unfold f_289 b_289_0 b_289_220
    rw [xV_97, v_begins A, bI_s, i01, hv, if_pos rfl, xV_97, v_sign A (by decide), bI_s, i01, if_neg (by rw [e]; decide), xV_97, v_sign A (by decide), bI_s, i01, if_neg (by rw [e]; decide), xp_97_77, xg_97_3, if_pos (S1.2.2.1.mpr e), xg_97_4, A1.2.2.1, xg_97_6, nb, xV_97, e2, bN_s, xV_97, e3, bN_s, bI_s]
    rfl
  · rw [f3, f2, uI_same, up_same]
theorem a_name (h : MR tx n b s k o (W ++ [f]) os ks) (hl : W.length < 64) (ho : os.length < 4990) (e : (mTT tx n k).1 = 3) : ∃ s', step1 (D + 8) 1 s 0 s' ∧ MR tx n b s' (k + 1) o (W ++ [f]) (os ++ [(6, (mTT tx n k).2.1, 0, 0, (mTT tx n k).2.2.1)]) ks ∧ offE b s s' ∧ s'.1 97 77 = 1 := by
  have A := h.at
  have hv : isVal (mTT tx n k).1 = true := by rw [e]; decide
  have a0 := h.w97 (j := 77) (v := 0) (by omega)
  have a1 := a0.w97 (j := 77) (v := 1) (by omega)
  obtain ⟨s2, e2, a2, r2, f2⟩ := m_orderName (d := D + 6) a1 ho 6 (mTT tx n k).2.1 0 (mTT tx n k).2.2.1
  obtain ⟨s3, e3, a3, r3, f3⟩ := m_next (d := D + 5) a2 (by rw [e]; decide)
  refine ⟨s3, fun m => ?_, a3, ((w97_off (by omega)).tr (w97_off (by omega))).tr (r2.tr r3), ?_⟩
  · have A0 := a0.at
    have S0 := v_srt A0
    have A1 := a1.at
    rw [lE_1 h hl, e_289]
    unfold f_289 b_289_0 b_289_220
    rw [xV_97, v_begins A, bI_s, i01, hv, if_pos rfl, xV_97, v_sign A (by decide), bI_s, i01, if_neg (by rw [e]; decide), xV_97, v_sign A (by decide), bI_s, i01, if_neg (by rw [e]; decide), xp_97_77, xg_97_3, if_neg (fun q => absurd ((S0.2.2.1.mp q).symm.trans e) (by decide)), xg_97_3, if_pos (S0.2.1.mpr e), xp_97_77, xg_97_4, A1.2.2.1, xg_97_7, A1.2.2.2.2 (Or.inr e), xV_97, e2, bN_s, xV_97, e3, bN_s, bI_s]
    rfl
  · rw [f3, f2, uI_same, up_same]
theorem a_null (h : MR tx n b s k o (W ++ [f]) os ks) (hl : W.length < 64) (ho : os.length < 4990) (e : (mTT tx n k).1 = 11) : ∃ s', step1 (D + 8) 1 s 0 s' ∧ MR tx n b s' (k + 1) o (W ++ [f]) (os ++ [(4, (mTT tx n k).2.1, 0, 0, 0)]) ks ∧ offE b s s' ∧ s'.1 97 77 = 0 := by
  have A := h.at
  have hv : isVal (mTT tx n k).1 = true := by rw [e]; decide
  have a1 := h.w97 (j := 77) (v := 0) (by omega)
  obtain ⟨s2, e2, a2, r2, f2⟩ := m_order (d := D + 7) a1 ho 4 (mTT tx n k).2.1 0 0
  obtain ⟨s3, e3, a3, r3, f3⟩ := m_next (d := D + 5) a2 (by rw [e]; decide)
  refine ⟨s3, fun m => ?_, a3, (w97_off (by omega)).tr (r2.tr r3), ?_⟩
  · have A1 := a1.at
    have S1 := v_srt A1
    have w7 : mjF (D + 8) 266 [.ref 97, .int 7] (mjW0 (uI s 97 (upd (s.1 97) 77 0))) = _ := v_word (d := D + 7) A1 (w := 6) (by decide)
    rw [lE_1 h hl, e_289]
    unfold f_289 b_289_0 b_289_220
    rw [xV_97, v_begins A, bI_s, i01, hv, if_pos rfl, xV_97, v_sign A (by decide), bI_s, i01, if_neg (by rw [e]; decide), xV_97, v_sign A (by decide), bI_s, i01, if_neg (by rw [e]; decide), xp_97_77, xg_97_3, if_neg (fun q => absurd ((S1.2.2.1.mp q).symm.trans e) (by decide)), xg_97_3, if_neg (fun q => absurd ((S1.2.1.mp q).symm.trans e) (by decide)), xV_97, w7, bI_s, i01, if_pos (show (mTT tx n k).1 = nI (6 + 5) from e), xg_97_4, A1.2.2.1, xV_97, e2, bN_s, xV_97, e3, bN_s, bI_s]
    rfl
  · rw [f3, f2, uI_same, up_same]
theorem a_this (h : MR tx n b s k o (W ++ [f]) os ks) (hl : W.length < 64) (ho : os.length < 4990) (e : (mTT tx n k).1 = 12) : ∃ s', step1 (D + 8) 1 s 0 s' ∧ MR tx n b s' (k + 1) o (W ++ [f]) (os ++ [(5, (mTT tx n k).2.1, 0, 0, 0)]) ks ∧ offE b s s' ∧ s'.1 97 77 = 0 := by
  have A := h.at
  have hv : isVal (mTT tx n k).1 = true := by rw [e]; decide
  have a1 := h.w97 (j := 77) (v := 0) (by omega)
  obtain ⟨s2, e2, a2, r2, f2⟩ := m_order (d := D + 7) a1 ho 5 (mTT tx n k).2.1 0 0
  obtain ⟨s3, e3, a3, r3, f3⟩ := m_next (d := D + 5) a2 (by rw [e]; decide)
  refine ⟨s3, fun m => ?_, a3, (w97_off (by omega)).tr (r2.tr r3), ?_⟩
  · have A1 := a1.at
    have S1 := v_srt A1
    have w7 : mjF (D + 8) 266 [.ref 97, .int 7] (mjW0 (uI s 97 (upd (s.1 97) 77 0))) = _ := v_word (d := D + 7) A1 (w := 6) (by decide)
    have w8 : mjF (D + 8) 266 [.ref 97, .int 8] (mjW0 (uI s 97 (upd (s.1 97) 77 0))) = _ := v_word (d := D + 7) A1 (w := 7) (by decide)
    rw [lE_1 h hl, e_289]
    unfold f_289 b_289_0 b_289_220
    rw [xV_97, v_begins A, bI_s, i01, hv, if_pos rfl, xV_97, v_sign A (by decide), bI_s, i01, if_neg (by rw [e]; decide), xV_97, v_sign A (by decide), bI_s, i01, if_neg (by rw [e]; decide), xp_97_77, xg_97_3, if_neg (fun q => absurd ((S1.2.2.1.mp q).symm.trans e) (by decide)), xg_97_3, if_neg (fun q => absurd ((S1.2.1.mp q).symm.trans e) (by decide)), xV_97, w7, bI_s, i01, if_neg (show ¬ (mTT tx n k).1 = nI (6 + 5) by rw [e]; decide), xV_97, w8, bI_s, i01, if_pos (show (mTT tx n k).1 = nI (7 + 5) from e), xg_97_4, A1.2.2.1, xV_97, e2, bN_s, xV_97, e3, bN_s, bI_s]
    rfl
  · rw [f3, f2, uI_same, up_same]
/-- new KIND -/
theorem a_new (h : MR tx n b s k o (W ++ [f]) os ks) (hl : W.length < 64) (ho : os.length < 4990) (hk : ks.length < 790) (e : (mTT tx n k).1 = 14) : match pKind (mTT tx n) (k + 1) with
    | .inl x => ∃ s', (∀ m, lE (D + 8) (m + 2) 1 s = some (none, mjW0 s')) ∧ MZ (mTT tx n) b s' x (os.length + 1) ∧ offE b s s'
    | .inr c' => ∃ s', step1 (D + 8) 1 s 0 s' ∧ MR tx n b s' c' o (W ++ [f]) (os ++ [(7, (mTT tx n k).2.1, nI (800 * b + ks.length), 0, 0)]) (ks ++ [k + 1]) ∧ offE b s s' ∧ s'.1 97 77 = 0 := by
  have A := h.at
  have hv : isVal (mTT tx n k).1 = true := by rw [e]; decide
  have a1 := h.w97 (j := 77) (v := 0) (by omega)
  obtain ⟨s2, e2, a2, r2, f2⟩ := m_next (d := D + 5) a1 (by rw [e]; decide)
  have A1 := a1.at
  have S1 := v_srt A1
  have w7 : mjF (D + 8) 266 [.ref 97, .int 7] (mjW0 (uI s 97 (upd (s.1 97) 77 0))) = _ := v_word (d := D + 7) A1 (w := 6) (by decide)
  have w8 : mjF (D + 8) 266 [.ref 97, .int 8] (mjW0 (uI s 97 (upd (s.1 97) 77 0))) = _ := v_word (d := D + 7) A1 (w := 7) (by decide)
  have pre : ∀ m, lE (D + 8) (m + 1) 1 s = bI (rV (mjW0 s2) 97 12 (bI (mjF (D + 8) 272 [.ref 97] (mjW0 s2)) (fun v16 hp17 => rV hp17 97 12 (bN (mjF (D + 8) 281 [.ref 97, .int 7, .int (mTT tx n k).2.1, .int v16, .int 0] hp17) (fun hp18 => some (some (.int 0), hp18)))))) (fun v hp => L_287_18 (mjF (D + 9)) m 97 v hp) := by
    intro m
    rw [lE_1 h hl, e_289]
    unfold f_289 b_289_0 b_289_220
    rw [xV_97, v_begins A, bI_s, i01, hv, if_pos rfl, xV_97, v_sign A (by decide), bI_s, i01, if_neg (by rw [e]; decide), xV_97, v_sign A (by decide), bI_s, i01, if_neg (by rw [e]; decide), xp_97_77, xg_97_3, if_neg (fun q => absurd ((S1.2.2.1.mp q).symm.trans e) (by decide)), xg_97_3, if_neg (fun q => absurd ((S1.2.1.mp q).symm.trans e) (by decide)), xV_97, w7, bI_s, i01, if_neg (show ¬ (mTT tx n k).1 = nI (6 + 5) by rw [e]; decide), xV_97, w8, bI_s, i01, if_neg (show ¬ (mTT tx n k).1 = nI (7 + 5) by rw [e]; decide), xg_97_4, A1.2.2.1, xV_97, e2, bN_s]
  have kd := m_kind (d := D + 2) a2 hk
  cases hd : pKind (mTT tx n) (k + 1) with
  | inl x =>
    rw [hd] at kd
    obtain ⟨s3, v, e3, z3, r3⟩ := kd
    obtain ⟨s4, e4, z4, r4, f4⟩ := z_order (d := D + 7) z3 (by omega) 7 (mTT tx n k).2.1 v 0
    refine ⟨s4, fun m => ?_, z4, (w97_off (by omega)).tr (r2.tr (r3.1.tr r4))⟩
    rw [pre, xV_97, e3, bI_s, xV_97, e4, bN_s, bI_s]
    exact lE_z z4 0
  | inr c' =>
    rw [hd] at kd
    obtain ⟨s3, e3, a3, r3, f3⟩ := kd
    obtain ⟨s4, e4, a4, r4, f4⟩ := m_order (d := D + 7) a3 ho 7 (mTT tx n k).2.1 (nI (800 * b + ks.length)) 0
    refine ⟨s4, fun m => ?_, a4, (w97_off (by omega)).tr (r2.tr (r3.tr r4)), ?_⟩
    · rw [pre, xV_97, e3, bI_s, xV_97, e4, bN_s, bI_s]
      rfl
    · rw [f4, f3, f2, uI_same, up_same]
/-- ( or - -/
theorem a_open (h : MR tx n b s k o (W ++ [f]) os ks) (hl : W.length < 62) (e : (mTT tx n k).1 = 40 ∨ (mTT tx n k).1 = 45) : (o < 12 → ∃ s' x, step1 (D + 8) 1 s 1 s' ∧ MR tx n b s' (k + 1) (o + 1) (W ++ [f] ++ [(if (mTT tx n k).1 = 45 then 2 else 1, 0, (mTT tx n k).2.1, 0, x)]) os ks ∧ offE b s s') ∧ (o = 12 → ∃ s', (∀ m, lE (D + 8) (m + 2) 1 s = some (none, mjW0 s')) ∧ MZ (mTT tx n) b s' (3, k) os.length ∧ offE b s s') := by
  have A := h.at
  have hv : isVal (mTT tx n k).1 = true := by rcases e with e | e <;> rw [e] <;> decide
  have hW : (W ++ [f]).length < 64 := by rw [List.length_append]; show W.length + 1 < 64; omega
  obtain ⟨s2, x, e2, a2, r2, f2⟩ := m_waits (d := D + 7) h hW (if (mTT tx n k).1 = 45 then 2 else 1) 0 (mTT tx n k).2.1 0
  have pre : ∀ m, lE (D + 8) (m + 1) 1 s = bI (b_289_69 (mjF (D + 8)) 97 (mTT tx n k).1 (mjW0 s2)) (fun v hp => L_287_18 (mjF (D + 9)) m 97 v hp) := by
    intro m
    have e31 : b_289_31 (mjF (D + 8)) 97 (mjW0 s) = b_289_69 (mjF (D + 8)) 97 (mTT tx n k).1 (mjW0 s2) := by
      unfold b_289_31 b_289_48
      rw [xV_97, v_sign A (by decide), bI_s, i01]
      by_cases e45 : (mTT tx n k).1 = 45
      · rw [if_pos e45] at e2 ⊢
        rw [xg_97_4, A.2.2.1, xV_97, e2, bN_s, if_pos e45, if_neg (show ¬ (1 : Int32) = 0 by decide), e45]
      · rw [if_neg e45] at e2 ⊢
        have e40 := e.resolve_right e45
        rw [xg_97_4, A.2.2.1, xV_97, e2, bN_s, if_neg e45, if_pos rfl, e40]
    rw [lE_1 h (by omega), e_289]
    unfold f_289 b_289_0
    rw [xV_97, v_begins A, bI_s, i01, hv, if_pos rfl, xV_97, v_sign A (by decide), bI_s, i01, xV_97, v_sign A (by decide), bI_s, i01, e31]
    by_cases e45 : (mTT tx n k).1 = 45
    · rw [if_pos e45]
    · rw [if_neg e45, if_pos (e.resolve_right e45)]
  have hc : (mTT tx n k).1 ∈ sgM := by rcases e with e | e <;> rw [e] <;> decide
  refine ⟨fun ho => ?_, fun ho => ?_⟩
  · obtain ⟨s3, e3, a3, r3, f3⟩ := m_opens (d := D + 4) a2 hc rfl ho
    refine ⟨s3, x, fun m => ?_, a3, r2.tr r3⟩
    rw [pre]
    unfold b_289_69
    rw [xV_97, e3, bN_s, bI_s]
    rfl
  · subst ho
    obtain ⟨s3, e3, z3, r3⟩ := m_opens3 (d := D + 4) a2 hc rfl
    refine ⟨s3, fun m => ?_, z3, r2.tr r3⟩
    rw [pre]
    unfold b_289_69
    rw [xV_97, e3, bN_s, bI_s]
    exact lE_z z3 1
end MJ75
