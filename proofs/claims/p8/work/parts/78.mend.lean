/-! ===== the reference: readEnd ===== -/
section MJ78
variable {tx : Nat → Int32} {n b D k o q l m : Nat} {s s' : mjSt3} {W : List WF} {f : WF} {os : List Row} {ks : List Nat}
/-- no operator, nothing to take off: readEnd -/
theorem m1Q_end (h : MR tx n b s k o (W ++ [f]) os ks) (hl : W.length < 64) (hf : ¬ f.1 = 3) : m1Q (D + 8) m (q + 1) 0 s = bI (bI (mjF (D + 8) 297 [.ref 97] (mjW0 s)) (fun v1 hp2 => (if narrow .boolean (.int v1) = .int v1 then some (some (.int v1), hp2) else none))) (fun v hp => L_287_18 (mjF (D + 9)) m 97 v hp) := by
  rw [m1Q_go (D := D + 7) h hl (by omega) (Or.inl hf)]
  unfold b_291_221
  rw [if_pos (show nI 0 ≤ 0 by decide), xV_97]
theorem end_0 (h : MR tx n b s k o (W ++ [f]) os ks) (hl : W.length < 64) (hf : ¬ f.1 = 3) {s' : mjSt3} (e : mjF (D + 8) 297 [.ref 97] (mjW0 s) = some (some (.int 0), mjW0 s')) : m1Q (D + 8) m (q + 1) 0 s = lE (D + 8) m 0 s' := by
  rw [m1Q_end h hl hf, e, bI_s, if_pos nz0, bI_s]
  rfl
theorem end_1 (h : MR tx n b s k o (W ++ [f]) os ks) (hl : W.length < 64) (hf : ¬ f.1 = 3) {s' : mjSt3} (e : mjF (D + 8) 297 [.ref 97] (mjW0 s) = some (some (.int 1), mjW0 s')) : m1Q (D + 8) m (q + 1) 0 s = lE (D + 8) m 1 s' := by
  rw [m1Q_end h hl hf, e, bI_s, if_pos nz1, bI_s]
  rfl
/-- the E's own end -/
theorem e_base (h : MR tx n b s k o (W ++ [f]) os ks) (hl : W.length < 64) (hf : f.1 = 0) : ∃ s', (∀ m q, m1Q (D + 8) m (q + 1) 0 s = lE (D + 8) m 0 s') ∧ MR tx n b s' k o W os ks ∧ offE b s s' ∧ s'.1 97 77 = s.1 97 77 := by
  have t := h.top
  refine ⟨_, fun m q => end_0 h hl (by rw [hf]; decide) ?_, h.pop, w97_off (by omega), ?_⟩
  · rw [e_297]
    unfold f_297 b_297_0
    rw [xg_97_76, t.2, xg_97_72, pk1, xa_151, if_pos (mj_in_nI hl (by decide)), nI_clamp (by omega), t.1.1, if_pos hf, xg_97_76, t.2, pk1, xp_97_76]
  · rw [uI_same]; exact if_neg (by decide)
/-- ) of an E in ( ) -/
theorem e_paren (h : MR tx n b s k (o + 1) (W ++ [f]) os ks) (hl : W.length < 64) (ho : os.length < 4990) (hf : f.1 = 1) : ((mTT tx n k).1 = 41 → ∃ s', (∀ m q, m1Q (D + 8) m (q + 1) 0 s = lE (D + 8) m 0 s') ∧ MR tx n b s' (k + 1) o W (os ++ [(30, -1, 0, 0, 0)]) ks ∧ offE b s s' ∧ s'.1 97 77 = 0) ∧ (¬ (mTT tx n k).1 = 41 → ∃ s', (∀ m q, m1Q (D + 8) (m + 1) (q + 1) 0 s = some (none, mjW0 s')) ∧ MZ (mTT tx n) b s' (F2 (mTT tx n) k) (os.length + 1) ∧ offE b s s') := by
  have t := h.top
  have pre : mjF (D + 8) 297 [.ref 97] (mjW0 s) = rV (mjW0 s) 97 12 (bN (mjF (D + 7) 278 [.ref 97, .int 41] (mjW0 s)) (fun  hp19 => gI hp19 97 12 76 (fun v20 => pI hp19 97 12 76 (v20 - (1 : Int32)) (fun hp21 => pI hp21 97 12 77 (0 : Int32) (fun hp22 => rV hp22 97 12 (bN (mjF (D + 7) 281 [.ref 97, .int (30 : Int32), .int (-1 : Int32), .int (0 : Int32), .int (0 : Int32)] hp22) (fun  hp23 => some (some (.int (0 : Int32)), hp23)))))))) := by
    rw [e_297]
    unfold f_297 b_297_0
    rw [xg_97_76, t.2, xg_97_72, pk1, xa_151, if_pos (mj_in_nI hl (by decide)), nI_clamp (by omega), t.1.1, if_neg (by rw [hf]; decide), xg_97_72, xa_151, if_pos (mj_in_nI hl (by decide)), nI_clamp (by omega), t.1.1, if_pos hf]
  have n3 : ¬ f.1 = 3 := by rw [hf]; decide
  refine ⟨fun h41 => ?_, fun h41 => ?_⟩
  · obtain ⟨s1, e1, a1, r1, f1⟩ := m_closes (d := D + 3) h (c := 41) (by decide) h41
    have a2 := a1.pop
    have a3 := a2.w97 (j := 77) (v := 0) (by omega)
    obtain ⟨s4, e4, a4, r4, f4⟩ := m_order (d := D + 6) a3 ho 30 (-1) 0 0
    refine ⟨s4, fun m q => end_0 h hl n3 ?_, a4, r1.tr ((w97_off (by omega)).tr ((w97_off (by omega)).tr r4)), ?_⟩
    · rw [pre, xV_97, e1, bN_s, xg_97_76, a1.top.2, pk1, xp_97_76, xp_97_77, xV_97, e4, bN_s]
    · rw [f4, uI_same, up_same]
  · have z1 := m_wz h
    have fb := bS_at (s := s) (nI (F2 (mTT tx n) k).1) ((mTT tx n) (F2 (mTT tx n) k).2).2.1
    have z2 := z1.w (j := 76) (v := nI W.length) (by omega)
    have z3 := z2.w (j := 77) (v := 0) (by omega)
    obtain ⟨s4, e4, z4, r4, f4⟩ := z_order (d := D + 6) z3 (by omega) 30 (-1) 0 0
    refine ⟨s4, fun m q => ?_, z4, (bS_off _ _).tr ((w97_off (by omega)).tr ((w97_off (by omega)).tr r4))⟩
    rw [end_0 h hl n3 (s' := s4)]
    · exact lE_z z4 0
    · rw [pre, xV_97, m_closesB h (by decide) h41, bN_s, xg_97_76, fb.2.2.1 76 (by decide) (by decide), t.2, pk1, xp_97_76, xp_97_77, xV_97, e4, bN_s]
/-- the end of an argument -/
theorem e_call {a j : Nat} {pl ax : Int32} {nm : Int64} (h : MR tx n b s k (o + 1) (W ++ [(4, nI a, pl, nI (j + 1), ax)]) os ks) (hl : W.length < 64) (ho : os.length < 4980) (hj : j < 6) (ha : os[a]? = some (11, pl, 0, 0, nm)) :
    ((mTT tx n k).1 = 44 → (isVal (mTT tx n (k + 1)).1 = true → j + 1 < 6 → ∃ s', (∀ m q, m1Q (D + 8) m (q + 1) 0 s = lE (D + 8) m 1 s') ∧ MR tx n b s' (k + 1) (o + 1) (W ++ [(4, nI a, pl, nI (j + 2), (mTT tx n (k + 1)).2.1)]) (os ++ [(12, ax, nI j, 0, 0)]) ks ∧ offE b s s') ∧ (isVal (mTT tx n (k + 1)).1 = false → ∃ s', (∀ m q, m1Q (D + 8) (m + 1) (q + 1) 0 s = some (none, mjW0 s')) ∧ MZ (mTT tx n) b s' (F2 (mTT tx n) (k + 1)) (os.length + 1) ∧ offE b s s') ∧ (isVal (mTT tx n (k + 1)).1 = true → j + 1 = 6 → ∃ s', (∀ m q, m1Q (D + 8) (m + 1) (q + 1) 0 s = some (none, mjW0 s')) ∧ MZ (mTT tx n) b s' (3, k + 1) (os.length + 1) ∧ offE b s s')) ∧
    ((mTT tx n k).1 = 41 → ∃ s', (∀ m q, m1Q (D + 8) m (q + 1) 0 s = lE (D + 8) m 0 s') ∧ MR tx n b s' (k + 1) o W ((os ++ [(12, ax, nI j, 0, 0)]).set a (11, pl, 0, nI (j + 1), nm) ++ [(13, pl, nI (j + 1), 0, nm)]) ks ∧ offE b s s' ∧ s'.1 97 77 = 3) ∧
    (¬ (mTT tx n k).1 = 44 → ¬ (mTT tx n k).1 = 41 → ∃ s', (∀ m q, m1Q (D + 8) (m + 1) (q + 1) 0 s = some (none, mjW0 s')) ∧ MZ (mTT tx n) b s' (F2 (mTT tx n) k) (os.length + 1) ∧ offE b s s') := by
  have t := h.top
  have n3 : ¬ ((4 : Int32), nI a, pl, nI (j + 1), ax).1 = 3 := fun e => absurd (show (4 : Int32) = 3 from e) (by decide)
  have al := (List.getElem?_eq_some_iff.mp ha).1
  obtain ⟨s1, e1, a1, r1, f1⟩ := m_order (d := D + 6) h (by omega) 12 ax (nI j) 0
  have l1 : (os ++ [((12 : Int32), ax, nI j, (0 : Int32), (0 : Int64))]).length = os.length + 1 := by rw [List.length_append]; rfl
  have pre : mjF (D + 8) 297 [.ref 97] (mjW0 s) = (rV (mjW0 s1) 97 12 (bI (mjF (D + 7) 271 [.ref 97, .int (44 : Int32)] (mjW0 s1)) (fun v11 hp12 => (if v11 = 0 then rV hp12 97 12 (bN (mjF (D + 7) 278 [.ref 97, .int (41 : Int32)] hp12) (fun  hp13 => gI hp13 97 12 61 (fun v14 => (if v14 ≤ 0 then rV hp13 97 12 (bN (mjF (D + 7) 293 [.ref 97, .int (nI W.length)] hp13) (fun  hp15 => some (some (.int (0 : Int32)), hp15))) else some (some (.int (0 : Int32)), hp13))))) else rV hp12 97 12 (bN (mjF (D + 7) 262 [.ref 97] hp12) (fun  hp16 => rV hp16 97 12 (bI (mjF (D + 7) 294 [.ref 97, .int (nI W.length)] hp16) (fun v17 hp18 => (if narrow .boolean (.int v17) = .int v17 then some (some (.int v17), hp18) else none)))))))) ) := by
    rw [e_297]
    unfold f_297 b_297_0
    rw [xg_97_76, t.2, xg_97_72, pk1, xa_151, if_pos (mj_in_nI hl (by decide)), nI_clamp (by omega), t.1.1, if_neg (show ¬ ((4 : Int32), nI a, pl, nI (j + 1), ax).1 = 0 from fun e => absurd (show (4 : Int32) = 0 from e) (by decide)), xg_97_72, xa_151, if_pos (mj_in_nI hl (by decide)), nI_clamp (by omega), t.1.1, if_neg (show ¬ ((4 : Int32), nI a, pl, nI (j + 1), ax).1 = 1 from fun e => absurd (show (4 : Int32) = 1 from e) (by decide)), xg_97_128, xa_182, if_pos (mj_in_nI hl (by decide)), nI_clamp (by omega), t.1.2.2.2.2, xg_97_75, xa_154, if_pos (mj_in_nI hl (by decide)), nI_clamp (by omega), t.1.2.2.2.1, show ((4 : Int32), nI a, pl, nI (j + 1), ax).2.2.2.1 = nI (j + 1) from rfl, pk1, show ((4 : Int32), nI a, pl, nI (j + 1), ax).2.2.2.2 = ax from rfl, xV_97, e1, bN_s]
  refine ⟨fun h44 => ?_, fun h41 => ?_, fun h44 h41 => ?_⟩
  · obtain ⟨s2, e2, a2, r2, f2⟩ := m_next (d := D + 4) a1 (by rw [h44]; decide)
    have B := m_beginA (D := D + 4) a2 hl (j := j + 1) rfl (by omega)
    refine ⟨fun hv j6 => ?_, fun hv => ?_, fun hv j6 => ?_⟩
    · obtain ⟨s3, e3, a3, r3, f3⟩ := B.1 hv j6
      refine ⟨s3, fun m q => end_1 h hl n3 ?_, a3, r1.tr (r2.tr r3)⟩
      rw [pre, xV_97, v_sign a1.at (by decide), bI_s, i01, if_pos h44, xV_97, e2, bN_s, xV_97, e3, bI_s, if_pos nz1]
    · obtain ⟨s3, e3, z3, r3⟩ := B.2.1 hv
      rw [l1] at z3
      refine ⟨s3, fun m q => ?_, z3, r1.tr (r2.tr r3)⟩
      rw [end_1 h hl n3 (s' := s3)]
      · exact lE_z z3 1
      · rw [pre, xV_97, v_sign a1.at (by decide), bI_s, i01, if_pos h44, xV_97, e2, bN_s, xV_97, e3, bI_s, if_pos nz1]
    · obtain ⟨s3, e3, z3, r3⟩ := B.2.2 hv j6
      rw [l1] at z3
      refine ⟨s3, fun m q => ?_, z3, r1.tr (r2.tr r3)⟩
      rw [end_1 h hl n3 (s' := s3)]
      · exact lE_z z3 1
      · rw [pre, xV_97, v_sign a1.at (by decide), bI_s, i01, if_pos h44, xV_97, e2, bN_s, xV_97, e3, bI_s, if_pos nz1]
  · obtain ⟨s2, e2, a2, r2, f2⟩ := m_closes (d := D + 3) a1 (c := 41) (by decide) h41
    obtain ⟨s3, e3, a3, r3, f3⟩ := m_endCall (D := D + 4) a2 hl (by rw [l1]; omega) (by rw [List.getElem?_append_left al]; exact ha)
    refine ⟨s3, fun m q => end_0 h hl n3 ?_, a3, r1.tr (r2.tr r3), f3⟩
    rw [pre, xV_97, v_sign a1.at (by decide), bI_s, i01, if_neg (by rw [h41]; decide), xV_97, e2, bN_s, xg_97_61, a2.2.1.2.1, if_pos (show (0 : Int32) ≤ 0 by decide), xV_97, e3, bN_s]
  · have z2 := m_wz a1
    rw [l1] at z2
    refine ⟨_, fun m q => ?_, z2, r1.tr (bS_off _ _)⟩
    rw [end_0 h hl n3 (s' := bS s1 (nI (F2 (mTT tx n) k).1) ((mTT tx n) (F2 (mTT tx n) k).2).2.1)]
    · exact lE_z z2 0
    · rw [pre, xV_97, v_sign a1.at (by decide), bI_s, i01, if_neg h44, xV_97, m_closesB a1 (by decide) h41, bN_s, xg_97_61, if_neg z2.pos]
end MJ78
