section
/-! ===== the reference: the end of a call, '.', as, the end of an E ===== -/
section MJ77
variable {tx : Nat → Int32} {n b D k o q l m : Nat} {s s' : mjSt3} {W : List WF} {f : WF} {os : List Row} {ks : List Nat}
theorem m_endCall {a mn : Nat} {pl x : Int32} {nm : Int64} (h : MR tx n b s k o (W ++ [(4, nI a, pl, nI mn, x)]) os ks) (hl : W.length < 64) (ho : os.length < 4990) (ha : os[a]? = some (11, pl, 0, 0, nm)) : ∃ s', mjF (D + 3) 293 [.ref 97, .int (nI W.length)] (mjW0 s) = some (none, mjW0 s') ∧ MR tx n b s' k o W (os.set a (11, pl, 0, nI mn, nm) ++ [(13, pl, nI mn, 0, nm)]) ks ∧ offE b s s' ∧ s'.1 97 77 = 3 := by
  have t := h.top
  have hb := h.2.1.1
  have al := (List.getElem?_eq_some_iff.mp ha).1
  have a1 := h.pop
  have a2 := a1.setR (x := 146) (v := nI mn) ha (Or.inr (Or.inr (Or.inr ⟨rfl, rfl⟩)))
  rw [show (((11 : Int32), pl, (0 : Int32), (0 : Int32), nm) : Row).1 = 11 from rfl] at a2
  obtain ⟨s3, e3, a3, r3, f3⟩ := m_orderName (d := D) a2 (by rw [List.length_set]; exact ho) 13 pl (nI mn) nm
  have a4 := a3.w97 (j := 77) (v := 3) (by omega)
  have e63 : (uI s 97 (upd (s.1 97) 76 (nI W.length))).1 97 63 = nI b := a1.2.1.2.2.1
  have rN : s.2.1 147 (5000 * b + a) = nm := (h.2.2.2.1.2 a _ ha).2.2.2.2
  refine ⟨_, ?_, a4, (w97_off (by omega)).tr ((setR_off (by omega) (by omega)).tr (r3.tr (w97_off (by omega)))), ?_⟩
  · rw [e_293]
    unfold f_293 b_293_0
    rw [xp_97_76, xg_97_57, xg_97_63, e63, xg_97_73, xa_152, if_pos (mj_in_nI hl (by decide)), nI_clamp (by omega), uI_ne _ _ _ _ (show ¬ 152 = 97 by decide), t.1.2.1, xg_97_75, xa_154, if_pos (mj_in_nI hl (by decide)), nI_clamp (by omega), uI_ne _ _ _ _ (show ¬ 154 = 97 by decide), t.1.2.2.2.1]
    rw [show ((4 : Int32), nI a, pl, nI mn, x).2.1 = nI a from rfl, show ((4 : Int32), nI a, pl, nI mn, x).2.2.2.1 = nI mn from rfl, idx5 hb, xs_146, if_pos (mj_in_nI (by omega) (by decide)), nI_clamp (by omega), xg_97_74, xa_153, if_pos (mj_in_nI hl (by decide)), nI_clamp (by omega), uI_ne _ _ _ _ (show ¬ 153 = 146 by decide), uI_ne _ _ _ _ (show ¬ 153 = 97 by decide), t.1.2.2.1, xg_97_58, xg_97_63, uI_ne _ _ _ _ (show ¬ 97 = 146 by decide), e63, xg_97_73, xa_152, if_pos (mj_in_nI hl (by decide)), nI_clamp (by omega), uI_ne _ _ _ _ (show ¬ 152 = 146 by decide), uI_ne _ _ _ _ (show ¬ 152 = 97 by decide), t.1.2.1, show ((4 : Int32), nI a, pl, nI mn, x).2.1 = nI a from rfl, idx5 hb, xa_147, if_pos (mj_in_nI (by omega) (by decide)), nI_clamp (by omega), uI_l, uI_l, rN, xg_97_75, xa_154, if_pos (mj_in_nI hl (by decide)), nI_clamp (by omega), uI_ne _ _ _ _ (show ¬ 154 = 146 by decide), uI_ne _ _ _ _ (show ¬ 154 = 97 by decide), t.1.2.2.2.1, show ((4 : Int32), nI a, pl, nI mn, x).2.2.2.1 = nI mn from rfl, show ((4 : Int32), nI a, pl, nI mn, x).2.2.1 = pl from rfl, xV_97, e3, bN_s, xp_97_77]
  · rw [uI_same, up_same]
/-- as KIND -/
theorem p_as (h : MR tx n b s k o (W ++ [f]) os ks) (hl : W.length < 64) (ho : os.length < 4990) (hk : ks.length < 790) (e : (mTT tx n k).1 = 20) : match pKind (mTT tx n) (k + 1) with
    | .inl x => ∃ s', (∀ m, lE (D + 8) (m + 2) 0 s = some (none, mjW0 s')) ∧ MZ (mTT tx n) b s' x (os.length + 1) ∧ offE b s s'
    | .inr c' => ∃ s', step1 (D + 8) 0 s 0 s' ∧ MR tx n b s' c' o (W ++ [f]) (os ++ [(14, (mTT tx n k).2.1, nI (800 * b + ks.length), 0, 0)]) (ks ++ [k + 1]) ∧ offE b s s' ∧ s'.1 97 77 = 0 := by
  have A := h.at
  have w16 : mjF (D + 8) 266 [.ref 97, .int 16] (mjW0 s) = _ := v_word (d := D + 7) A (w := 15) (by decide)
  obtain ⟨s2, e2, a2, r2, f2⟩ := m_next (d := D + 5) h (by rw [e]; decide)
  have pre : ∀ m, lE (D + 8) (m + 1) 0 s = bI (rV (mjW0 s2) 97 12 (bI (mjF (D + 8) 272 [.ref 97] (mjW0 s2)) (fun v7 hp8 => rV hp8 97 12 (bN (mjF (D + 8) 281 [.ref 97, .int 14, .int (mTT tx n k).2.1, .int v7, .int 0] hp8) (fun hp9 => pI hp9 97 12 77 0 (fun hp10 => some (some (.int 0), hp10))))))) (fun v hp => L_287_18 (mjF (D + 9)) m 97 v hp) := by
    intro m
    rw [lE_0 h hl, e_291]
    unfold f_291 b_291_0
    rw [xV_97, v_sign A (by decide), bI_s, i01, if_neg (by rw [e]; decide), xV_97, w16, bI_s, i01, if_pos (show (mTT tx n k).1 = nI (15 + 5) from e), xg_97_4, A.2.2.1, xV_97, e2, bN_s]
  have kd := m_kind (d := D + 2) a2 hk
  cases hd : pKind (mTT tx n) (k + 1) with
  | inl x =>
    rw [hd] at kd
    obtain ⟨s3, v, e3, z3, r3⟩ := kd
    obtain ⟨s4, e4, z4, r4, f4⟩ := z_order (d := D + 7) z3 (by omega) 14 (mTT tx n k).2.1 v 0
    have z5 := z4.w (j := 77) (v := 0) (by omega)
    refine ⟨_, fun m => ?_, z5, r2.tr (r3.1.tr (r4.tr (w97_off (by omega))))⟩
    rw [pre, xV_97, e3, bI_s, xV_97, e4, bN_s, xp_97_77, bI_s]
    exact lE_z z5 0
  | inr c' =>
    rw [hd] at kd
    obtain ⟨s3, e3, a3, r3, f3⟩ := kd
    obtain ⟨s4, e4, a4, r4, f4⟩ := m_order (d := D + 7) a3 ho 14 (mTT tx n k).2.1 (nI (800 * b + ks.length)) 0
    have a5 := a4.w97 (j := 77) (v := 0) (by omega)
    refine ⟨_, fun m => ?_, a5, r2.tr (r3.tr (r4.tr (w97_off (by omega)))), ?_⟩
    · rw [pre, xV_97, e3, bI_s, xV_97, e4, bN_s, xp_97_77, bI_s]
      rfl
    · rw [uI_same, up_same]
/-- readDot's beginning -/
theorem p_dot (h : MR tx n b s k o (W ++ [f]) os ks) (hl : W.length < 62) (ho : os.length < 4980) (e : (mTT tx n k).1 = 46) :
    (¬ (mTT tx n (k + 1)).1 = 3 → ∃ s', (∀ m, lE (D + 8) (m + 2) 0 s = some (none, mjW0 s')) ∧ MZ (mTT tx n) b s' (F2 (mTT tx n) (k + 1)) os.length ∧ offE b s s') ∧
    ((mTT tx n (k + 1)).1 = 3 → ¬ (mTT tx n (k + 2)).1 = 40 → ∃ s', step1 (D + 8) 0 s 0 s' ∧ MR tx n b s' (k + 2) o (W ++ [f]) (os ++ [(10, (mTT tx n (k + 1)).2.1, 0, 0, (mTT tx n (k + 1)).2.2.1)]) ks ∧ offE b s s' ∧ s'.1 97 77 = 2) ∧
    ((mTT tx n (k + 1)).1 = 3 → (mTT tx n (k + 2)).1 = 40 → (o = 12 → ∃ s', (∀ m, lE (D + 8) (m + 2) 0 s = some (none, mjW0 s')) ∧ MZ (mTT tx n) b s' (3, k + 2) (os.length + 1) ∧ offE b s s') ∧
      (o < 12 → (mTT tx n (k + 3)).1 = 41 → ∃ s', step1 (D + 8) 0 s 0 s' ∧ MR tx n b s' (k + 4) o (W ++ [f]) (os ++ [(11, (mTT tx n (k + 1)).2.1, 0, 0, (mTT tx n (k + 1)).2.2.1), (13, (mTT tx n (k + 1)).2.1, 0, 0, (mTT tx n (k + 1)).2.2.1)]) ks ∧ offE b s s' ∧ s'.1 97 77 = 3) ∧
      (o < 12 → ¬ (mTT tx n (k + 3)).1 = 41 → isVal (mTT tx n (k + 3)).1 = true → ∃ s', step1 (D + 8) 0 s 1 s' ∧ MR tx n b s' (k + 3) (o + 1) (W ++ [f] ++ [(4, nI os.length, (mTT tx n (k + 1)).2.1, nI 1, (mTT tx n (k + 3)).2.1)]) (os ++ [(11, (mTT tx n (k + 1)).2.1, 0, 0, (mTT tx n (k + 1)).2.2.1)]) ks ∧ offE b s s') ∧
      (o < 12 → ¬ (mTT tx n (k + 3)).1 = 41 → isVal (mTT tx n (k + 3)).1 = false → ∃ s', (∀ m, lE (D + 8) (m + 2) 0 s = some (none, mjW0 s')) ∧ MZ (mTT tx n) b s' (F2 (mTT tx n) (k + 3)) (os.length + 1) ∧ offE b s s')) := by
  have A := h.at
  obtain ⟨s1, e1, a1, r1, f1⟩ := m_next (d := D + 4) h (by rw [e]; decide)
  have A1 := a1.at
  have S1 := v_srt A1
  have pre : ∀ m, lE (D + 8) (m + 1) 0 s = bI (bI (mjF (D + 8) 292 [.ref 97] (mjW0 s)) (fun v11 hp12 => (if narrow .boolean (.int v11) = .int v11 then some (some (.int v11), hp12) else none))) (fun v hp => L_287_18 (mjF (D + 9)) m 97 v hp) := by
    intro m
    rw [lE_0 h (by omega), e_291]
    unfold f_291 b_291_0
    rw [xV_97, v_sign A (by decide), bI_s, i01, if_pos e, xV_97]
  have c0 : ∀ (u : mjU) (s' : mjSt3) (m : Nat), mjF (D + 8) 292 [.ref 97] (mjW0 s) = some (some (.int 0), mjW0 s') → lE (D + 8) (m + 1) 0 s = lE (D + 8) m 0 s' := by
    intro u s' m q
    rw [pre, q, bI_s, if_pos nz0, bI_s]
    rfl
  have c1 : ∀ (s' : mjSt3) (m : Nat), mjF (D + 8) 292 [.ref 97] (mjW0 s) = some (some (.int 1), mjW0 s') → lE (D + 8) (m + 1) 0 s = lE (D + 8) m 1 s' := by
    intro s' m q
    rw [pre, q, bI_s, if_pos nz1, bI_s]
    rfl
  refine ⟨fun h3 => ?_, fun h3 h40 => ?_, fun h3 h40 => ?_⟩
  · have z := m_wz a1
    refine ⟨_, fun m => ?_, z, r1.tr (bS_off _ _)⟩
    rw [c0 none (bS s1 (nI (F2 (mTT tx n) (k + 1)).1) ((mTT tx n) (F2 (mTT tx n) (k + 1)).2).2.1) (m + 1)]
    · exact lE_z z 0
    · rw [e_292]
      unfold f_292 b_292_0
      rw [xV_97, e1, bN_s, xg_97_3, if_neg (fun q => h3 (S1.2.1.mp q)), xV_97, m_wrong a1, bN_s]
  · obtain ⟨s2, e2, a2, r2, f2⟩ := m_next (d := D + 4) a1 (by rw [h3]; decide)
    obtain ⟨s3, e3, a3, r3, f3⟩ := m_orderName (d := D + 5) a2 (by omega) 10 (mTT tx n (k + 1)).2.1 0 (mTT tx n (k + 1)).2.2.1
    have a4 := a3.w97 (j := 77) (v := 2) (by omega)
    refine ⟨_, fun m => c0 none _ m ?_, a4, r1.tr (r2.tr (r3.tr (w97_off (by omega)))), by rw [uI_same, up_same]⟩
    rw [e_292]
    unfold f_292 b_292_0
    rw [xV_97, e1, bN_s, xg_97_3, if_pos (S1.2.1.mpr h3), xg_97_4, A1.2.2.1, xg_97_7, A1.2.2.2.2 (Or.inr h3), xV_97, e2, bN_s, xV_97, v_sign a2.at (by decide), bI_s, i01, if_neg h40, xV_97, e3, bN_s, xp_97_77]
  · obtain ⟨s2, e2, a2, r2, f2⟩ := m_next (d := D + 4) a1 (by rw [h3]; decide)
    obtain ⟨s3, e3, a3, r3, f3⟩ := m_orderName (d := D + 5) a2 (by omega) 11 (mTT tx n (k + 1)).2.1 0 (mTT tx n (k + 1)).2.2.1
    have hb := h.2.1.1
    have l3 : (os ++ [((11 : Int32), (mTT tx n (k + 1)).2.1, (0 : Int32), (0 : Int32), (mTT tx n (k + 1)).2.2.1)]).length = os.length + 1 := by rw [List.length_append]; rfl
    have o3 : s3.1 122 b = nI (os.length + 1) := by rw [a3.2.2.2.1.1, l3]
    have hW : (W ++ [f]).length < 64 := by rw [List.length_append]; show W.length + 1 < 64; omega
    have lW : (W ++ [f]).length = W.length + 1 := by rw [List.length_append]; rfl
    obtain ⟨s4, x, e4, a4, r4, f4⟩ := m_waits (d := D + 6) a3 hW 4 (nI os.length) (mTT tx n (k + 1)).2.1 0
    have pre2 : mjF (D + 8) 292 [.ref 97] (mjW0 s) = (rV (mjW0 s4) 97 12 (bN (mjF (D + 7) 274 [.ref 97, .int 40] (mjW0 s4)) (fun  hp13 => gI hp13 97 12 61 (fun v14 => (if v14 ≤ 0 then rV hp13 97 12 (bI (mjF (D + 7) 271 [.ref 97, .int 41] hp13) (fun v15 hp16 => (if v15 = 0 then gI hp16 97 12 76 (fun v17 => rV hp16 97 12 (bI (mjF (D + 7) 294 [.ref 97, .int (v17 - 1)] hp16) (fun v18 hp19 => (if narrow .boolean (.int v18) = .int v18 then some (some (.int v18), hp19) else none)))) else rV hp16 97 12 (bN (mjF (D + 7) 278 [.ref 97, .int 41] hp16) (fun  hp20 => gI hp20 97 12 76 (fun v21 => rV hp20 97 12 (bN (mjF (D + 7) 293 [.ref 97, .int (v21 - 1)] hp20) (fun  hp22 => some (some (.int 0), hp22))))))))) else some (some (.int 0), hp13)))))) := by
      rw [e_292]
      unfold f_292 b_292_0
      rw [xV_97, e1, bN_s, xg_97_3, if_pos (S1.2.1.mpr h3), xg_97_4, A1.2.2.1, xg_97_7, A1.2.2.2.2 (Or.inr h3), xV_97, e2, bN_s, xV_97, v_sign a2.at (by decide), bI_s, i01, if_pos h40, xV_97, e3, bN_s, xg_97_33, xg_97_63, a3.2.1.2.2.1, xa_122, if_pos (mj_in_nI (by omega) (by decide)), nI_clamp (by omega), o3, pk1, xV_97, e4, bN_s]
    refine ⟨fun o12 => ?_, fun o12 h41 => ?_, fun o12 h41 hv => ?_, fun o12 h41 hv => ?_⟩
    · subst o12
      obtain ⟨s5, e5, z5, r5⟩ := m_opens3 (d := D + 3) a4 (c := 40) (by decide) h40
      rw [l3] at z5
      refine ⟨s5, fun m => ?_, z5, r1.tr (r2.tr (r3.tr (r4.tr r5)))⟩
      rw [c0 none s5 (m + 1)]
      · exact lE_z z5 0
      · rw [pre2, xV_97, e5, bN_s, xg_97_61, if_neg z5.pos]
    · obtain ⟨s5, e5, a5, r5, f5⟩ := m_opens (d := D + 3) a4 (c := 40) (by decide) h40 o12
      obtain ⟨s6, e6, a6, r6, f6⟩ := m_closes (d := D + 3) a5 (c := 41) (by decide) h41
      have a6' : MR tx n b s6 (k + 4) o (W ++ [f] ++ [(4, nI os.length, (mTT tx n (k + 1)).2.1, nI 0, x)]) (os ++ [(11, (mTT tx n (k + 1)).2.1, 0, 0, (mTT tx n (k + 1)).2.2.1)]) ks := a6
      obtain ⟨s7, e7, a7, r7, f7⟩ := m_endCall (D := D + 4) a6' hW (by rw [l3]; omega) (by rw [List.getElem?_append_right (Nat.le_refl _), Nat.sub_self]; rfl)
      rw [List.set_append_right _ _ (Nat.le_refl _), Nat.sub_self, List.append_assoc] at a7
      refine ⟨s7, fun m => c0 none s7 m ?_, a7, r1.tr (r2.tr (r3.tr (r4.tr (r5.tr (r6.tr r7))))), f7⟩
      rw [pre2, xV_97, e5, bN_s, xg_97_61, a5.2.1.2.1, if_pos (show (0 : Int32) ≤ 0 by decide), xV_97, v_sign a5.at (by decide), bI_s, i01, if_pos h41, xV_97, e6, bN_s, xg_97_76, a6'.top.2, pk1, xV_97, e7, bN_s]
    · obtain ⟨s5, e5, a5, r5, f5⟩ := m_opens (d := D + 3) a4 (c := 40) (by decide) h40 o12
      obtain ⟨s6, e6, a6, r6, f6⟩ := (m_beginA (D := D + 4) a5 hW (j := 0) rfl (by omega)).1 hv (by omega)
      refine ⟨s6, fun m => c1 s6 m ?_, a6, r1.tr (r2.tr (r3.tr (r4.tr (r5.tr r6))))⟩
      rw [pre2, xV_97, e5, bN_s, xg_97_61, a5.2.1.2.1, if_pos (show (0 : Int32) ≤ 0 by decide), xV_97, v_sign a5.at (by decide), bI_s, i01, if_neg h41, xg_97_76, a5.top.2, pk1, xV_97, e6, bI_s, if_pos nz1]
    · obtain ⟨s5, e5, a5, r5, f5⟩ := m_opens (d := D + 3) a4 (c := 40) (by decide) h40 o12
      obtain ⟨s6, e6, z6, r6⟩ := (m_beginA (D := D + 4) a5 hW (j := 0) rfl (by omega)).2.1 hv
      rw [l3] at z6
      refine ⟨s6, fun m => ?_, z6, r1.tr (r2.tr (r3.tr (r4.tr (r5.tr r6))))⟩
      rw [c1 s6 (m + 1)]
      · exact lE_z z6 1
      · rw [pre2, xV_97, e5, bN_s, xg_97_61, a5.2.1.2.1, if_pos (show (0 : Int32) ≤ 0 by decide), xV_97, v_sign a5.at (by decide), bI_s, i01, if_neg h41, xg_97_76, a5.top.2, pk1, xV_97, e6, bI_s, if_pos nz1]
end MJ77
end
section
/-! ===== the reference: readEnd ===== -/
section MJ78
variable {tx : Nat → Int32} {n b D k o q l m : Nat} {s s' : mjSt3} {W : List WF} {f : WF} {os : List Row} {ks : List Nat}
/-- no operator, nothing to take off: readEnd -/
theorem m1Q_end (h : MR tx n b s k o (W ++ [f]) os ks) (hl : W.length < 64) (hf : ¬ f.1 = 3) : m1Q (D + 8) m (q + 1) 0 s = bI (bI (mjF (D + 8) 297 [.ref 97] (mjW0 s)) (fun v1 hp2 => (if narrow .boolean (.int v1) = .int v1 then some (some (.int v1), hp2) else none))) (fun v hp => L_287_18 (mjF (D + 9)) m 97 v hp) := by
  rw [m1Q_go (D := D + 7) h hl (by omega) (Or.inl hf)]
  unfold b_291_221
  rw [if_pos (show nI 0 ≤ 0 by decide), xV_97]
theorem end_0 (h : MR tx n b s k o (W ++ [f]) os ks) (hl : W.length < 64) (hf : ¬ f.1 = 3) {s' : mjSt3} (e : mjF (D + 8) 297 [.ref 97] (mjW0 s) = some (some (.int 0), mjW0 s')) : m1Q (D + 8) m (q + 1) 0 s = lE (D + 8) m 0 s' := by
  rw [m1Q_end h hl hf, e, bI_s, if_pos nz0, bI_s]
  rfl
theorem end_1 (h : MR tx n b s k o (W ++ [f]) os ks) (hl : W.length < 64) (hf : ¬ f.1 = 3) {s' : mjSt3} (e : mjF (D + 8) 297 [.ref 97] (mjW0 s) = some (some (.int 1), mjW0 s')) : m1Q (D + 8) m (q + 1) 0 s = lE (D + 8) m 1 s' := by
  rw [m1Q_end h hl hf, e, bI_s, if_pos nz1, bI_s]
  rfl
/-- the E's own end -/
theorem e_base (h : MR tx n b s k o (W ++ [f]) os ks) (hl : W.length < 64) (hf : f.1 = 0) : ∃ s', (∀ m q, m1Q (D + 8) m (q + 1) 0 s = lE (D + 8) m 0 s') ∧ MR tx n b s' k o W os ks ∧ offE b s s' ∧ s'.1 97 77 = s.1 97 77 := by
  have t := h.top
  refine ⟨_, fun m q => end_0 h hl (by rw [hf]; decide) ?_, h.pop, w97_off (by omega), ?_⟩
  · rw [e_297]
    unfold f_297 b_297_0
    rw [xg_97_76, t.2, xg_97_72, pk1, xa_151, if_pos (mj_in_nI hl (by decide)), nI_clamp (by omega), t.1.1, if_pos hf, xg_97_76, t.2, pk1, xp_97_76]
  · rw [uI_same]; exact if_neg (by decide)
/-- ) of an E in ( ) -/
theorem e_paren (h : MR tx n b s k (o + 1) (W ++ [f]) os ks) (hl : W.length < 64) (ho : os.length < 4990) (hf : f.1 = 1) : ((mTT tx n k).1 = 41 → ∃ s', (∀ m q, m1Q (D + 8) m (q + 1) 0 s = lE (D + 8) m 0 s') ∧ MR tx n b s' (k + 1) o W (os ++ [(30, -1, 0, 0, 0)]) ks ∧ offE b s s' ∧ s'.1 97 77 = 0) ∧ (¬ (mTT tx n k).1 = 41 → ∃ s', (∀ m q, m1Q (D + 8) (m + 1) (q + 1) 0 s = some (none, mjW0 s')) ∧ MZ (mTT tx n) b s' (F2 (mTT tx n) k) (os.length + 1) ∧ offE b s s') := by
  have t := h.top
  have pre : mjF (D + 8) 297 [.ref 97] (mjW0 s) = rV (mjW0 s) 97 12 (bN (mjF (D + 7) 278 [.ref 97, .int 41] (mjW0 s)) (fun  hp19 => gI hp19 97 12 76 (fun v20 => pI hp19 97 12 76 (v20 - (1 : Int32)) (fun hp21 => pI hp21 97 12 77 (0 : Int32) (fun hp22 => rV hp22 97 12 (bN (mjF (D + 7) 281 [.ref 97, .int (30 : Int32), .int (-1 : Int32), .int (0 : Int32), .int (0 : Int32)] hp22) (fun  hp23 => some (some (.int (0 : Int32)), hp23)))))))) := by
    rw [e_297]
    unfold f_297 b_297_0
    rw [xg_97_76, t.2, xg_97_72, pk1, xa_151, if_pos (mj_in_nI hl (by decide)), nI_clamp (by omega), t.1.1, if_neg (by rw [hf]; decide), xg_97_72, xa_151, if_pos (mj_in_nI hl (by decide)), nI_clamp (by omega), t.1.1, if_pos hf]
  have n3 : ¬ f.1 = 3 := by rw [hf]; decide
  refine ⟨fun h41 => ?_, fun h41 => ?_⟩
  · obtain ⟨s1, e1, a1, r1, f1⟩ := m_closes (d := D + 3) h (c := 41) (by decide) h41
    have a2 := a1.pop
    have a3 := a2.w97 (j := 77) (v := 0) (by omega)
    obtain ⟨s4, e4, a4, r4, f4⟩ := m_order (d := D + 6) a3 ho 30 (-1) 0 0
    refine ⟨s4, fun m q => end_0 h hl n3 ?_, a4, r1.tr ((w97_off (by omega)).tr ((w97_off (by omega)).tr r4)), ?_⟩
    · rw [pre, xV_97, e1, bN_s, xg_97_76, a1.top.2, pk1, xp_97_76, xp_97_77, xV_97, e4, bN_s]
    · rw [f4, uI_same, up_same]
  · have z1 := m_wz h
    have fb := bS_at (s := s) (nI (F2 (mTT tx n) k).1) ((mTT tx n) (F2 (mTT tx n) k).2).2.1
    have z2 := z1.w (j := 76) (v := nI W.length) (by omega)
    have z3 := z2.w (j := 77) (v := 0) (by omega)
    obtain ⟨s4, e4, z4, r4, f4⟩ := z_order (d := D + 6) z3 (by omega) 30 (-1) 0 0
    refine ⟨s4, fun m q => ?_, z4, (bS_off _ _).tr ((w97_off (by omega)).tr ((w97_off (by omega)).tr r4))⟩
    rw [end_0 h hl n3 (s' := s4)]
    · exact lE_z z4 0
    · rw [pre, xV_97, m_closesB h (by decide) h41, bN_s, xg_97_76, fb.2.2.1 76 (by decide) (by decide), t.2, pk1, xp_97_76, xp_97_77, xV_97, e4, bN_s]
/-- the end of an argument -/
theorem e_call {a j : Nat} {pl ax : Int32} {nm : Int64} (h : MR tx n b s k (o + 1) (W ++ [(4, nI a, pl, nI (j + 1), ax)]) os ks) (hl : W.length < 64) (ho : os.length < 4980) (hj : j < 6) (ha : os[a]? = some (11, pl, 0, 0, nm)) :
    ((mTT tx n k).1 = 44 → (isVal (mTT tx n (k + 1)).1 = true → j + 1 < 6 → ∃ s', (∀ m q, m1Q (D + 8) m (q + 1) 0 s = lE (D + 8) m 1 s') ∧ MR tx n b s' (k + 1) (o + 1) (W ++ [(4, nI a, pl, nI (j + 2), (mTT tx n (k + 1)).2.1)]) (os ++ [(12, ax, nI j, 0, 0)]) ks ∧ offE b s s') ∧ (isVal (mTT tx n (k + 1)).1 = false → ∃ s', (∀ m q, m1Q (D + 8) (m + 1) (q + 1) 0 s = some (none, mjW0 s')) ∧ MZ (mTT tx n) b s' (F2 (mTT tx n) (k + 1)) (os.length + 1) ∧ offE b s s') ∧ (isVal (mTT tx n (k + 1)).1 = true → j + 1 = 6 → ∃ s', (∀ m q, m1Q (D + 8) (m + 1) (q + 1) 0 s = some (none, mjW0 s')) ∧ MZ (mTT tx n) b s' (3, k + 1) (os.length + 1) ∧ offE b s s')) ∧
    ((mTT tx n k).1 = 41 → ∃ s', (∀ m q, m1Q (D + 8) m (q + 1) 0 s = lE (D + 8) m 0 s') ∧ MR tx n b s' (k + 1) o W ((os ++ [(12, ax, nI j, 0, 0)]).set a (11, pl, 0, nI (j + 1), nm) ++ [(13, pl, nI (j + 1), 0, nm)]) ks ∧ offE b s s' ∧ s'.1 97 77 = 3) ∧
    (¬ (mTT tx n k).1 = 44 → ¬ (mTT tx n k).1 = 41 → ∃ s', (∀ m q, m1Q (D + 8) (m + 1) (q + 1) 0 s = some (none, mjW0 s')) ∧ MZ (mTT tx n) b s' (F2 (mTT tx n) k) (os.length + 1) ∧ offE b s s') := by
  have t := h.top
  have n3 : ¬ ((4 : Int32), nI a, pl, nI (j + 1), ax).1 = 3 := fun e => absurd (show (4 : Int32) = 3 from e) (by decide)
  have al := (List.getElem?_eq_some_iff.mp ha).1
  obtain ⟨s1, e1, a1, r1, f1⟩ := m_order (d := D + 6) h (by omega) 12 ax (nI j) 0
  have l1 : (os ++ [((12 : Int32), ax, nI j, (0 : Int32), (0 : Int64))]).length = os.length + 1 := by rw [List.length_append]; rfl
  have pre : mjF (D + 8) 297 [.ref 97] (mjW0 s) = (rV (mjW0 s1) 97 12 (bI (mjF (D + 7) 271 [.ref 97, .int (44 : Int32)] (mjW0 s1)) (fun v11 hp12 => (if v11 = 0 then rV hp12 97 12 (bN (mjF (D + 7) 278 [.ref 97, .int (41 : Int32)] hp12) (fun  hp13 => gI hp13 97 12 61 (fun v14 => (if v14 ≤ 0 then rV hp13 97 12 (bN (mjF (D + 7) 293 [.ref 97, .int (nI W.length)] hp13) (fun  hp15 => some (some (.int (0 : Int32)), hp15))) else some (some (.int (0 : Int32)), hp13))))) else rV hp12 97 12 (bN (mjF (D + 7) 262 [.ref 97] hp12) (fun  hp16 => rV hp16 97 12 (bI (mjF (D + 7) 294 [.ref 97, .int (nI W.length)] hp16) (fun v17 hp18 => (if narrow .boolean (.int v17) = .int v17 then some (some (.int v17), hp18) else none)))))))) ) := by
    rw [e_297]
    unfold f_297 b_297_0
    rw [xg_97_76, t.2, xg_97_72, pk1, xa_151, if_pos (mj_in_nI hl (by decide)), nI_clamp (by omega), t.1.1, if_neg (show ¬ ((4 : Int32), nI a, pl, nI (j + 1), ax).1 = 0 from fun e => absurd (show (4 : Int32) = 0 from e) (by decide)), xg_97_72, xa_151, if_pos (mj_in_nI hl (by decide)), nI_clamp (by omega), t.1.1, if_neg (show ¬ ((4 : Int32), nI a, pl, nI (j + 1), ax).1 = 1 from fun e => absurd (show (4 : Int32) = 1 from e) (by decide)), xg_97_128, xa_182, if_pos (mj_in_nI hl (by decide)), nI_clamp (by omega), t.1.2.2.2.2, xg_97_75, xa_154, if_pos (mj_in_nI hl (by decide)), nI_clamp (by omega), t.1.2.2.2.1, show ((4 : Int32), nI a, pl, nI (j + 1), ax).2.2.2.1 = nI (j + 1) from rfl, pk1, show ((4 : Int32), nI a, pl, nI (j + 1), ax).2.2.2.2 = ax from rfl, xV_97, e1, bN_s]
  refine ⟨fun h44 => ?_, fun h41 => ?_, fun h44 h41 => ?_⟩
  · obtain ⟨s2, e2, a2, r2, f2⟩ := m_next (d := D + 4) a1 (by rw [h44]; decide)
    have B := m_beginA (D := D + 4) a2 hl (j := j + 1) rfl (by omega)
    refine ⟨fun hv j6 => ?_, fun hv => ?_, fun hv j6 => ?_⟩
    · obtain ⟨s3, e3, a3, r3, f3⟩ := B.1 hv j6
      refine ⟨s3, fun m q => end_1 h hl n3 ?_, a3, r1.tr (r2.tr r3)⟩
      rw [pre, xV_97, v_sign a1.at (by decide), bI_s, i01, if_pos h44, xV_97, e2, bN_s, xV_97, e3, bI_s, if_pos nz1]
    · obtain ⟨s3, e3, z3, r3⟩ := B.2.1 hv
      rw [l1] at z3
      refine ⟨s3, fun m q => ?_, z3, r1.tr (r2.tr r3)⟩
      rw [end_1 h hl n3 (s' := s3)]
      · exact lE_z z3 1
      · rw [pre, xV_97, v_sign a1.at (by decide), bI_s, i01, if_pos h44, xV_97, e2, bN_s, xV_97, e3, bI_s, if_pos nz1]
    · obtain ⟨s3, e3, z3, r3⟩ := B.2.2 hv j6
      rw [l1] at z3
      refine ⟨s3, fun m q => ?_, z3, r1.tr (r2.tr r3)⟩
      rw [end_1 h hl n3 (s' := s3)]
      · exact lE_z z3 1
      · rw [pre, xV_97, v_sign a1.at (by decide), bI_s, i01, if_pos h44, xV_97, e2, bN_s, xV_97, e3, bI_s, if_pos nz1]
  · obtain ⟨s2, e2, a2, r2, f2⟩ := m_closes (d := D + 3) a1 (c := 41) (by decide) h41
    obtain ⟨s3, e3, a3, r3, f3⟩ := m_endCall (D := D + 4) a2 hl (by rw [l1]; omega) (by rw [List.getElem?_append_left al]; exact ha)
    refine ⟨s3, fun m q => end_0 h hl n3 ?_, a3, r1.tr (r2.tr r3), f3⟩
    rw [pre, xV_97, v_sign a1.at (by decide), bI_s, i01, if_neg (by rw [h41]; decide), xV_97, e2, bN_s, xg_97_61, a2.2.1.2.1, if_pos (show (0 : Int32) ≤ 0 by decide), xV_97, e3, bN_s]
  · have z2 := m_wz a1
    rw [l1] at z2
    refine ⟨_, fun m q => ?_, z2, r1.tr (bS_off _ _)⟩
    rw [end_0 h hl n3 (s' := bS s1 (nI (F2 (mTT tx n) k).1) ((mTT tx n) (F2 (mTT tx n) k).2).2.1)]
    · exact lE_z z2 0
    · rw [pre, xV_97, v_sign a1.at (by decide), bI_s, i01, if_neg h44, xV_97, m_closesB a1 (by decide) h41, bN_s, xg_97_61, if_neg z2.pos]
end MJ78
end
section
/-! ===== the reference reads an E so ===== -/
/-- a state that holds T -/
def sTH (T : TT) (N : Nat) : mjSt3 := (fun h j => if h = 58 then nI (N + 1) else if h = 60 then (T j).1 else if h = 61 then (T j).2.1 else 0, fun _ _ => 0, fun _ _ => 0)
theorem sTH_ok {T : TT} {N : Nat} (hN : N ≤ 3000) (h0 : (T N).1 = 0) : TH T N (sTH T N) := ⟨rfl, hN, h0, fun _ _ => ⟨rfl, rfl⟩⟩
/-- what is read ends within the text -/
theorem prE_le {T : TT} {N f q c kq : Nat} {z : PZ} (hN : N ≤ 3000) (h0 : (T N).1 = 0) (hq : q ≤ 12) (hc : c ≤ N) : (6 * (12 - q) + 7 ≤ f → prE T (N + 1) f 0 q c kq = .inr z → z.1 ≤ N) ∧ (6 * (12 - q) + 6 ≤ f → prE T (N + 1) f 1 q c kq = .inr z → z.1 ≤ N) ∧ (6 * (12 - q) + 5 ≤ f → prE T (N + 1) f 2 q c kq = .inr z → z.1 ≤ N) ∧ (6 * (12 - q) + 4 ≤ f → prE T (N + 1) f 3 q c kq = .inr z → z.1 ≤ N) ∧ (6 * (12 - q) + 3 ≤ f → prE T (N + 1) f 4 q c kq = .inr z → z.1 ≤ N) ∧ (6 * (12 - q) + 2 ≤ f → prE T (N + 1) f 5 q c kq = .inr z → z.1 ≤ N) := by
  have r := rdE_ok (sTH_ok hN h0) f (f + 9) q c kq 0 0 (fun _ => 0) (Nat.le_refl _) hq hc
  refine ⟨fun h e => ?_, fun h e => ?_, fun h e => ?_, fun h e => ?_, fun h e => ?_, fun h e => ?_⟩
  · have k := r.1 h; rw [e] at k; exact k.1
  · have k := r.2.1 h; rw [e] at k; exact k.1
  · have k := r.2.2.1 h; rw [e] at k; exact k.1
  · have k := r.2.2.2.1 h; rw [e] at k; exact k.1
  · have k := r.2.2.2.2.1 h; rw [e] at k; exact k.1
  · have k := r.2.2.2.2.2.1 h; rw [e] at k; exact k.1
/-- the loop ends bad -/
def FZ (T : TT) (b N : Nat) (run : Nat → mjU) (s : mjSt3) (k : Nat) (e : Nat × Nat) : Prop := ∃ s' j x, (∀ m, run (m + j) = some (none, mjW0 s')) ∧ j ≤ N + 5 - k ∧ MZ T b s' e x ∧ x ≤ 4700 ∧ offE b s s'
section MJ79
variable {tx : Nat → Int32} {n b D k o N : Nat} {s : mjSt3} {W : List WF} {f : WF} {os : List Row} {ks : List Nat}
theorem FZ.via {T : TT} {run run' : Nat → mjU} {s1 : mjSt3} {k1 j : Nat} {e : Nat × Nat} (h : FZ T b N run' s1 k1 e) (hr : ∀ m, run (m + j) = run' m) (ho : offE b s s1) (hj : j + k ≤ k1) (hk : k1 ≤ N) : FZ T b N run s k e := by
  obtain ⟨s', j', x, a1, a2, a3, a4, a5⟩ := h
  refine ⟨s', j' + j, x, fun m => ?_, by omega, a3, a4, ho.tr a5⟩
  rw [show m + (j' + j) = (m + j') + j by omega, hr, a1]
theorem FZ.via2 {T : TT} {run run' : Nat → mjU} {s1 : mjSt3} {k1 j : Nat} {e : Nat × Nat} (h : FZ T b N run' s1 k1 e) (hr : ∀ m, run (m + j) = run' m) (ho : offE b s s1) (hj : j + k ≤ k1) (hk : k1 ≤ N + 5) : FZ T b N run s k e := by
  obtain ⟨s', j', x, a1, a2, a3, a4, a5⟩ := h
  refine ⟨s', j' + j, x, fun m => ?_, by omega, a3, a4, ho.tr a5⟩
  rw [show m + (j' + j) = (m + j') + j by omega, hr, a1]
theorem FZ.one {T : TT} {run : Nat → mjU} {s' : mjSt3} {j x : Nat} {e : Nat × Nat} (hr : ∀ m, run (m + j) = some (none, mjW0 s')) (hj : j ≤ 2) (hk : k ≤ N) (z : MZ T b s' e x) (hx : x ≤ 4700) (ho : offE b s s') : FZ T b N run s k e := ⟨s', j, x, hr, by omega, z, hx, ho⟩
/-- all is small enough -/
def szE (B N k : Nat) (W : List WF) (os : List Row) (ks : List Nat) : Prop := os.length + W.length ≤ B + k ∧ B ≤ 1500 ∧ k ≤ N ∧ N ≤ 3000 ∧ 4 * ks.length ≤ k
/-- behind POST or ATOM -/
def gE (tx : Nat → Int32) (n b D N : Nat) (s : mjSt3) (k o : Nat) (W : List WF) (os : List Row) (ks : List Nat) (r : PX) : Prop := match r with
  | .inl e => FZ (mTT tx n) b N (fun m => lE (D + 8) m 1 s) s k e
  | .inr z => ∃ s' j, (∀ m, lE (D + 8) (m + j) 1 s = lE (D + 8) m 0 s') ∧ j + k ≤ z.1 ∧ MR tx n b s' z.1 o W (os ++ z.2.2.2.1) (ks ++ z.2.2.1) ∧ offE b s s' ∧ s'.1 97 77 = z.2.1
/-- behind UNIT -/
def gU (tx : Nat → Int32) (n b D N : Nat) (s : mjSt3) (k o : Nat) (W : List WF) (os : List Row) (ks : List Nat) (r : PX) : Prop := match r with
  | .inl e => FZ (mTT tx n) b N (fun m => lE (D + 8) m 1 s) s k e
  | .inr z => ∃ s' j q, (∀ m, lE (D + 8) (m + j) 1 s = mQ (D + 8) m q s') ∧ j + k ≤ z.1 + 1 ∧ mjN ≤ q + (12 - o) ∧ MR tx n b s' z.1 o W (os ++ z.2.2.2.1) (ks ++ z.2.2.1) ∧ offE b s s' ∧ s'.1 97 77 = z.2.1
/-- behind PRODUCT, SUM, E: y may be taken off yet -/
def gP (tx : Nat → Int32) (n b D N : Nat) (s : mjSt3) (k o : Nat) (W : List WF) (os : List Row) (ks : List Nat) (y : Nat) (r : PX) : Prop := match r with
  | .inl e => FZ (mTT tx n) b N (fun m => lE (D + 8) m 1 s) s k e
  | .inr z => ∃ s' j q, (∀ m, lE (D + 8) (m + j) 1 s = m1Q (D + 8) m q (lvl (mTT tx n z.1).1) s') ∧ j + k ≤ z.1 + 1 ∧ mjN ≤ q + y ∧ lvl (mTT tx n z.1).1 ≤ 3 - y ∧ MR tx n b s' z.1 o W (os ++ z.2.2.2.1) (ks ++ z.2.2.1) ∧ offE b s s' ∧ s'.1 97 77 = z.2.1
theorem lvl_pro {K : Int32} (h : isPro K = true) : lvl K = 3 ∧ lvO (nbr K 0) = 3 := by
  have : K = 42 ∨ K = 47 ∨ K = 37 := by simpa [isPro] using h
  rcases this with e | e | e <;> rw [e] <;> decide
theorem lvl_sum {K : Int32} (h : isSum K = true) : lvl K = 2 ∧ lvO (nbr K 0) = 2 := by
  have : K = 43 ∨ K = 45 := by simpa [isSum] using h
  rcases this with e | e <;> rw [e] <;> decide
theorem lvl_cmp {K : Int32} (h : isCmp K = true) : lvl K = 1 ∧ lvO (nbr K 0) = 1 := by
  have : K = 200 ∨ K = 201 ∨ K = 60 := by simpa [isCmp] using h
  rcases this with e | e | e <;> rw [e] <;> decide
theorem lvl_le (K : Int32) : lvl K ≤ 3 ∧ (¬ isPro K = true → lvl K ≤ 2) ∧ (¬ isPro K = true → ¬ isSum K = true → lvl K ≤ 1) ∧ (¬ isPro K = true → ¬ isSum K = true → ¬ isCmp K = true → lvl K = 0) := by
  unfold lvl
  by_cases a : isPro K = true
  · rw [if_pos a]; exact ⟨by omega, fun h => absurd a h, fun h => absurd a h, fun h => absurd a h⟩
  · rw [if_neg a]
    by_cases b : isSum K = true
    · rw [if_pos b]; exact ⟨by omega, fun _ => by omega, fun _ h => absurd b h, fun _ h => absurd b h⟩
    · rw [if_neg b]
      by_cases c : isCmp K = true
      · rw [if_pos c]; exact ⟨by omega, fun _ => by omega, fun _ _ => by omega, fun _ _ h => absurd c h⟩
      · rw [if_neg c]; exact ⟨by omega, fun _ => by omega, fun _ _ => by omega, fun _ _ _ => rfl⟩
/-- operators of one rank: at z.1, the reference in its middle -/
theorem lp_two {sg : Int32 → Bool} {lv y B kq k0 o : Nat} {rd : Nat → Nat → PX} {os0 : List Row} {ks0 : List Nat} (hlv : (lv = 3 ∧ y = 1) ∨ (lv = 2 ∧ y = 2)) (hsg : ∀ K, sg K = true → lvl K = lv ∧ lvO (nbr K 0) = lv) (hns : ∀ K, lvl K ≤ lv → ¬ sg K = true → lvl K ≤ 3 - y) (hkq : kq = 800 * b + ks0.length) (hW : W.length ≤ 60) (h0 : (mTT tx n N).1 = 0) (hs0 : ¬ sg 0 = true) (hf : ¬ f.1 = 3 ∨ lvO f.2.1 < lv) (hos : os0.length + W.length ≤ B + k0) (hks : 4 * ks0.length ≤ k0) (hB : B ≤ 1500) (hN : N ≤ 3000)
    (hlen : ∀ c kq z, rd c kq = .inr z → lnZ c 0 z) (hle : ∀ c kq z, c ≤ N → rd c kq = .inr z → z.1 ≤ N)
    (hr : ∀ (s1 : mjSt3) (c : Nat) (f1 : WF) (os1 : List Row) (ks1 : List Nat), ¬ f1.1 = 2 → lvO f1.2.1 = lv → MR tx n b s1 c o (W ++ [f] ++ [f1]) os1 ks1 → os1.length + (W.length + 1) ≤ B + c → c ≤ N → 4 * ks1.length ≤ c → match rd c (800 * b + ks1.length) with
      | .inl e => FZ (mTT tx n) b N (fun m => lE (D + 8) m 1 s1) s1 c e
      | .inr z => ∃ s' j q, (∀ m, lE (D + 8) (m + j) 1 s1 = m1Q (D + 8) m q (lvl (mTT tx n z.1).1) s') ∧ j + c ≤ z.1 + 1 ∧ mjN ≤ q + (y - 1) ∧ lvl (mTT tx n z.1).1 ≤ lv ∧ MR tx n b s' z.1 o (W ++ [f] ++ [f1]) (os1 ++ z.2.2.2.1) (ks1 ++ z.2.2.1) ∧ offE b s1 s' ∧ s'.1 97 77 = z.2.1) :
    ∀ (kf : Nat) (z : PZ) (s : mjSt3) (q : Nat), lnZ k0 0 z → z.1 ≤ N → N < z.1 + kf → MR tx n b s z.1 o (W ++ [f]) (os0 ++ z.2.2.2.1) (ks0 ++ z.2.2.1) → s.1 97 77 = z.2.1 → mjN ≤ q + y → lvl (mTT tx n z.1).1 ≤ lv → match pLoop (mTT tx n) sg rd kq kf z with
      | .inl e => FZ (mTT tx n) b N (fun m => m1Q (D + 8) m q (lvl (mTT tx n z.1).1) s) s (z.1 + 1) e
      | .inr w => ∃ s' j q', (∀ m, m1Q (D + 8) (m + j) q (lvl (mTT tx n z.1).1) s = m1Q (D + 8) m q' (lvl (mTT tx n w.1).1) s') ∧ j + z.1 ≤ w.1 ∧ mjN ≤ q' + y ∧ lvl (mTT tx n w.1).1 ≤ 3 - y ∧ MR tx n b s' w.1 o (W ++ [f]) (os0 ++ w.2.2.2.1) (ks0 ++ w.2.2.1) ∧ offE b s s' ∧ s'.1 97 77 = w.2.1 := by
  intro kf
  induction kf with
  | zero => intro z s q _ hz hN'; omega
  | succ kf ih =>
    intro z s q hln hz hN' h hsh hq hl0
    have hmj : mjN = 100000000 := rfl
    obtain ⟨q, rfl⟩ : ∃ x, q = x + 1 := ⟨q - 1, by omega⟩
    unfold pLoop
    by_cases g : sg (mTT tx n z.1).1 = true
    · have gl := hsg _ g
      rw [if_pos g]
      obtain ⟨ln1, ln2, ln3⟩ := hln
      have L1 : (os0 ++ z.2.2.2.1).length = os0.length + z.2.2.2.1.length := List.length_append
      have L2 : (ks0 ++ z.2.2.1).length = ks0.length + z.2.2.1.length := List.length_append
      obtain ⟨s1, x, e1, a1, r1, f1⟩ := m1Q_push (D := D + 4) h (by omega) gl.1 (by omega) hf
      have hz1 : z.1 < N := by
        have : ¬ z.1 = N := fun e => by
          rw [e, h0] at g
          exact hs0 g
        omega
      have C := hr s1 (z.1 + 1) (3, nbr (mTT tx n z.1).1 0, (mTT tx n z.1).2.1, 0, x) (os0 ++ z.2.2.2.1) (ks0 ++ z.2.2.1) (fun e => absurd (show (3 : Int32) = 2 from e) (by decide)) gl.2 a1 (by rw [L1]; omega) hz1 (by rw [L2]; omega)
      rw [L2, ← Nat.add_assoc, ← hkq] at C
      cases hd : rd (z.1 + 1) (kq + z.2.2.1.length) with
      | inl e =>
        rw [hd] at C
        exact FZ.via C (j := 0) (fun m => by rw [gl.1]; exact e1 m q) r1 (by omega) hz1
      | inr w =>
        rw [hd] at C
        obtain ⟨s2, j2, q2, c1, c2, c3, c4, c5, c6, c7⟩ := C
        obtain ⟨q2, rfl⟩ : ∃ x, q2 = x + 1 := ⟨q2 - 1, by omega⟩
        obtain ⟨b1, b2, b3⟩ := hlen _ _ _ hd
        have hw := hle _ _ _ hz1 hd
        have lw := lvl_le (mTT tx n w.1).1
        obtain ⟨s3, d1, d2, d3, d4⟩ := m1Q_two (D := D + 7) (l := lvl (mTT tx n w.1).1) c5 (by rw [List.length_append]; show W.length + 1 < 64; omega) (by rw [List.length_append, L1]; omega) lw.1 (by rw [gl.2]; omega) (by rw [gl.2]; omega)
        have L : lnZ k0 0 (w.1, 0, z.2.2.1 ++ w.2.2.1, z.2.2.2.1 ++ w.2.2.2.1 ++ [oTwo (mTT tx n) z.1], z.2.2.2.2 ++ w.2.2.2.2) := by
          refine ⟨?_, ?_, ?_⟩
          · show k0 < w.1; omega
          · simp only [List.length_append, List.length_singleton]; omega
          · simp only [List.length_append]; omega
        have e4 : os0 ++ z.2.2.2.1 ++ w.2.2.2.1 ++ [((9 : Int32), (mTT tx n z.1).2.1, nbr (mTT tx n z.1).1 0, (0 : Int32), (0 : Int64))] = os0 ++ (z.2.2.2.1 ++ w.2.2.2.1 ++ [oTwo (mTT tx n) z.1]) := by
          simp only [List.append_assoc]; rfl
        rw [e4, List.append_assoc ks0] at d2
        have I := ih (w.1, 0, z.2.2.1 ++ w.2.2.1, z.2.2.2.1 ++ w.2.2.2.1 ++ [oTwo (mTT tx n) z.1], z.2.2.2.2 ++ w.2.2.2.2) s3 q2 L hw (by show N < w.1 + kf; omega) d2 d4 (by omega) c4
        have run : ∀ m, m1Q (D + 8) (m + j2) (q + 1) (lvl (mTT tx n z.1).1) s = m1Q (D + 8) m q2 (lvl (mTT tx n w.1).1) s3 := by
          intro m
          rw [gl.1, e1, c1, d1]
        show match pLoop (mTT tx n) sg rd kq kf (w.1, 0, z.2.2.1 ++ w.2.2.1, z.2.2.2.1 ++ w.2.2.2.1 ++ [oTwo (mTT tx n) z.1], z.2.2.2.2 ++ w.2.2.2.2) with
          | .inl e => _
          | .inr w => _
        cases hp : pLoop (mTT tx n) sg rd kq kf (w.1, 0, z.2.2.1 ++ w.2.2.1, z.2.2.2.1 ++ w.2.2.2.1 ++ [oTwo (mTT tx n) z.1], z.2.2.2.2 ++ w.2.2.2.2) with
        | inl e =>
          rw [hp] at I
          exact FZ.via2 I run (r1.tr (c6.tr d3)) (by show j2 + (z.1 + 1) ≤ w.1 + 1; omega) (by show w.1 + 1 ≤ N + 5; omega)
        | inr v =>
          rw [hp] at I
          obtain ⟨s5, j5, q5, i1, i2, i3, i4, i5, i6, i7⟩ := I
          refine ⟨s5, j5 + j2, q5, fun m => ?_, ?_, i3, i4, i5, r1.tr (c6.tr (d3.tr i6)), i7⟩
          · rw [show m + (j5 + j2) = (m + j5) + j2 by omega, run]
            exact i1 m
          · have i2' : j5 + w.1 ≤ v.1 := i2
            omega
    · rw [if_neg g]
      exact ⟨s, 0, q + 1, fun m => rfl, by omega, hq, hns _ hl0 g, h, offG.rf, hsh⟩
end MJ79
end
section
/-! ===== the reference reads an E so: calls, POSTS ===== -/
section MJ80
variable {tx : Nat → Int32} {n b D k o N : Nat} {s : mjSt3} {W : List WF} {f : WF} {os : List Row} {ks : List Nat}
/-- behind a whole E -/
def gV (tx : Nat → Int32) (n b D N : Nat) (s : mjSt3) (k o : Nat) (W : List WF) (os : List Row) (ks : List Nat) (r : PX) : Prop := match r with
  | .inl e => FZ (mTT tx n) b N (fun m => lE (D + 8) m 1 s) s k e
  | .inr z => (isCmp (mTT tx n z.1).1 = true → FZ (mTT tx n) b N (fun m => lE (D + 8) m 1 s) s k (F2 (mTT tx n) z.1)) ∧ (¬ isCmp (mTT tx n z.1).1 = true → ∃ s' j q, (∀ m, lE (D + 8) (m + j) 1 s = m1Q (D + 8) m q 0 s') ∧ j + k ≤ z.1 + 1 ∧ mjN ≤ q + 3 ∧ MR tx n b s' z.1 o W (os ++ z.2.2.2.1) (ks ++ z.2.2.1) ∧ offE b s s' ∧ s'.1 97 77 = z.2.1)
theorem mjN_v : mjN = 100000000 := rfl
/-- ARGUMENTS, at the first TOKEN of number i -/
theorem lp_args {B kq k0 a : Nat} {pl : Int32} {nm : Int64} {rv : Nat → Nat → PX} {os0 : List Row} {ks0 : List Nat} (h0 : (mTT tx n N).1 = 0) (hkq : kq = 800 * b + ks0.length) (hW : W.length ≤ 60) (hos : os0.length + W.length + 1 ≤ B + k0) (hks : 4 * ks0.length ≤ k0) (hB : B ≤ 1500) (hN : N ≤ 3000) (ha : os0[a]? = some (11, pl, 0, 0, nm))
    (hlen : ∀ c kq z, rv c kq = .inr z → lnZ c 0 z) (hle : ∀ c kq z, c ≤ N → rv c kq = .inr z → z.1 ≤ N) (hnot : ∀ c kq, isVal (mTT tx n c).1 = false → rv c kq = .inl (F2 (mTT tx n) c))
    (hr : ∀ (s1 : mjSt3) (c : Nat) (f1 : WF) (os1 : List Row) (ks1 : List Nat), ¬ f1.1 = 2 → ¬ f1.1 = 3 → MR tx n b s1 c (o + 1) (W ++ [f1]) os1 ks1 → os1.length + W.length ≤ B + c → c ≤ N → 4 * ks1.length ≤ c → gV tx n b D N s1 c (o + 1) (W ++ [f1]) os1 ks1 (rv c (800 * b + ks1.length))) :
    ∀ (kf i : Nat) (z : PZ) (s : mjSt3), kf + i = 7 → i < 6 → (k0 ≤ z.1 ∧ z.2.2.2.1.length ≤ z.1 - k0 ∧ 4 * z.2.2.1.length ≤ z.1 - k0) → z.1 ≤ N → isVal (mTT tx n z.1).1 = true → MR tx n b s z.1 (o + 1) (W ++ [(4, nI a, pl, nI (i + 1), (mTT tx n z.1).2.1)]) (os0 ++ z.2.2.2.1) (ks0 ++ z.2.2.1) → match pArgs (mTT tx n) rv kq kf i z with
      | .inl e => FZ (mTT tx n) b N (fun m => lE (D + 8) m 1 s) s z.1 e
      | .inr y => ∃ s' j, (∀ m, lE (D + 8) (m + j) 1 s = lE (D + 8) m 0 s') ∧ j + z.1 ≤ y.2.1 ∧ MR tx n b s' y.2.1 o W ((os0 ++ y.2.2.2.2.1).set a (11, pl, 0, nI y.1, nm) ++ [(13, pl, nI y.1, 0, nm)]) (ks0 ++ y.2.2.2.1) ∧ offE b s s' ∧ s'.1 97 77 = 3 := by
  intro kf
  induction kf with
  | zero => intro i z s hi h6; omega
  | succ kf ih =>
    intro i z s hi h6 hz hzN hv h
    have hmj := mjN_v
    obtain ⟨z1, z2, z3⟩ := hz
    have al := (List.getElem?_eq_some_iff.mp ha).1
    have L1 : (os0 ++ z.2.2.2.1).length = os0.length + z.2.2.2.1.length := List.length_append
    have L2 : (ks0 ++ z.2.2.1).length = ks0.length + z.2.2.1.length := List.length_append
    unfold pArgs
    rw [if_neg (show ¬ i = 6 by omega)]
    have C := hr s z.1 (4, nI a, pl, nI (i + 1), (mTT tx n z.1).2.1) (os0 ++ z.2.2.2.1) (ks0 ++ z.2.2.1) (fun e => absurd (show (4 : Int32) = 2 from e) (by decide)) (fun e => absurd (show (4 : Int32) = 3 from e) (by decide)) h (by rw [L1]; omega) hzN (by rw [L2]; omega)
    rw [L2, ← Nat.add_assoc, ← hkq] at C
    cases hd : rv z.1 (kq + z.2.2.1.length) with
    | inl e =>
      rw [hd] at C
      exact C
    | inr w =>
      rw [hd] at C
      obtain ⟨b1, b2, b3⟩ := hlen _ _ _ hd
      have hw := hle _ _ _ hzN hd
      have lt : ∀ c : Int32, (mTT tx n w.1).1 = c → ¬ c = 0 → w.1 < N := by
        intro c e e0
        have : ¬ w.1 = N := fun q => e0 (by rw [← e, q, h0])
        omega
      by_cases h44 : (mTT tx n w.1).1 = 44
      · have nc : ¬ isCmp (mTT tx n w.1).1 = true := by rw [h44]; decide
        have wl := lt 44 h44 (by decide)
        obtain ⟨s2, j2, q2, c1, c2, c3, c4, c5, c6⟩ := C.2 nc
        obtain ⟨q2, rfl⟩ : ∃ x, q2 = x + 1 := ⟨q2 - 1, by omega⟩
        have E := (e_call (D := D) c4 (by omega) (by rw [List.length_append, L1]; omega) h6 (by rw [List.append_assoc, List.getElem?_append_left al]; exact ha)).1 h44
        simp only [if_pos h44]
        by_cases hv2 : isVal (mTT tx n (w.1 + 1)).1 = true
        · by_cases i6 : i + 1 = 6
          · obtain ⟨s3, d1, d2, d3⟩ := E.2.2 hv2 i6
            have e6 : pArgs (mTT tx n) rv kq kf (i + 1) (w.1 + 1, 0, z.2.2.1 ++ w.2.2.1, z.2.2.2.1 ++ w.2.2.2.1 ++ [(12, (mTT tx n z.1).2.1, nI i, 0, 0)], z.2.2.2.2 ++ w.2.2.2.2) = .inl (3, w.1 + 1) := by
              obtain ⟨kf, rfl⟩ : ∃ x, kf = x + 1 := ⟨kf - 1, by omega⟩
              unfold pArgs
              rw [if_pos i6, if_pos hv2]
            rw [e6]
            refine ⟨s3, j2 + 1, _, fun m => ?_, by omega, d2, by rw [List.length_append, L1]; omega, c5.tr d3⟩
            show lE (D + 8) (m + (j2 + 1)) 1 s = _
            rw [show m + (j2 + 1) = (m + 1) + j2 by omega, c1, d1]
          · obtain ⟨s3, d1, d2, d3⟩ := E.1 hv2 (by omega)
            have e4 : os0 ++ z.2.2.2.1 ++ w.2.2.2.1 ++ [((12 : Int32), (mTT tx n z.1).2.1, nI i, (0 : Int32), (0 : Int64))] = os0 ++ (z.2.2.2.1 ++ w.2.2.2.1 ++ [(12, (mTT tx n z.1).2.1, nI i, 0, 0)]) := by simp only [List.append_assoc]
            rw [e4, List.append_assoc ks0] at d2
            have I := ih (i + 1) (w.1 + 1, 0, z.2.2.1 ++ w.2.2.1, z.2.2.2.1 ++ w.2.2.2.1 ++ [(12, (mTT tx n z.1).2.1, nI i, 0, 0)], z.2.2.2.2 ++ w.2.2.2.2) s3 (by omega) (by omega) ⟨by show k0 ≤ w.1 + 1; omega, by simp only [List.length_append, List.length_singleton]; omega, by simp only [List.length_append]; omega⟩ wl hv2 d2
            have run : ∀ m, lE (D + 8) (m + j2) 1 s = lE (D + 8) m 1 s3 := fun m => by rw [c1, d1]
            cases hp : pArgs (mTT tx n) rv kq kf (i + 1) (w.1 + 1, 0, z.2.2.1 ++ w.2.2.1, z.2.2.2.1 ++ w.2.2.2.1 ++ [(12, (mTT tx n z.1).2.1, nI i, 0, 0)], z.2.2.2.2 ++ w.2.2.2.2) with
            | inl e =>
              rw [hp] at I
              exact FZ.via I run (c5.tr d3) (by show j2 + z.1 ≤ w.1 + 1; omega) wl
            | inr y =>
              rw [hp] at I
              obtain ⟨s5, j5, i1, i2, i3, i4, i5⟩ := I
              have i2' : j5 + (w.1 + 1) ≤ y.2.1 := i2
              refine ⟨s5, j5 + j2, fun m => ?_, by omega, i3, c5.tr (d3.tr i4), i5⟩
              rw [show m + (j5 + j2) = (m + j5) + j2 by omega, run, i1]
        · have hv2' : isVal (mTT tx n (w.1 + 1)).1 = false := by simpa using hv2
          obtain ⟨s3, d1, d2, d3⟩ := E.2.1 hv2'
          have e6 : pArgs (mTT tx n) rv kq kf (i + 1) (w.1 + 1, 0, z.2.2.1 ++ w.2.2.1, z.2.2.2.1 ++ w.2.2.2.1 ++ [(12, (mTT tx n z.1).2.1, nI i, 0, 0)], z.2.2.2.2 ++ w.2.2.2.2) = .inl (F2 (mTT tx n) (w.1 + 1)) := by
            obtain ⟨kf, rfl⟩ : ∃ x, kf = x + 1 := ⟨kf - 1, by omega⟩
            unfold pArgs
            by_cases i6 : i + 1 = 6
            · rw [if_pos i6, if_neg hv2]
            · rw [if_neg i6, hnot _ _ hv2']
          rw [e6]
          refine ⟨s3, j2 + 1, _, fun m => ?_, by omega, d2, by rw [List.length_append, L1]; omega, c5.tr d3⟩
          show lE (D + 8) (m + (j2 + 1)) 1 s = _
          rw [show m + (j2 + 1) = (m + 1) + j2 by omega, c1, d1]
      · simp only [if_neg h44]
        by_cases h41 : (mTT tx n w.1).1 = 41
        · have nc : ¬ isCmp (mTT tx n w.1).1 = true := by rw [h41]; decide
          obtain ⟨s2, j2, q2, c1, c2, c3, c4, c5, c6⟩ := C.2 nc
          obtain ⟨q2, rfl⟩ : ∃ x, q2 = x + 1 := ⟨q2 - 1, by omega⟩
          obtain ⟨s3, d1, d2, d3, d4⟩ := (e_call (D := D) c4 (by omega) (by rw [List.length_append, L1]; omega) h6 (by rw [List.append_assoc, List.getElem?_append_left al]; exact ha)).2.1 h41
          have e4 : os0 ++ z.2.2.2.1 ++ w.2.2.2.1 ++ [((12 : Int32), (mTT tx n z.1).2.1, nI i, (0 : Int32), (0 : Int64))] = os0 ++ (z.2.2.2.1 ++ w.2.2.2.1 ++ [(12, (mTT tx n z.1).2.1, nI i, 0, 0)]) := by simp only [List.append_assoc]
          rw [e4, List.append_assoc ks0] at d2
          simp only [if_pos h41]
          refine ⟨s3, j2, fun m => ?_, by show j2 + z.1 ≤ w.1 + 1; omega, d2, c5.tr d3, d4⟩
          rw [c1, d1]
        · simp only [if_neg h41]
          by_cases hc : isCmp (mTT tx n w.1).1 = true
          · exact C.1 hc
          · obtain ⟨s2, j2, q2, c1, c2, c3, c4, c5, c6⟩ := C.2 hc
            obtain ⟨q2, rfl⟩ : ∃ x, q2 = x + 1 := ⟨q2 - 1, by omega⟩
            obtain ⟨s3, d1, d2, d3⟩ := (e_call (D := D) c4 (by omega) (by rw [List.length_append, L1]; omega) h6 (by rw [List.append_assoc, List.getElem?_append_left al]; exact ha)).2.2 h44 h41
            refine ⟨s3, j2 + 1, _, fun m => ?_, by omega, d2, by rw [List.length_append, L1]; omega, c5.tr d3⟩
            show lE (D + 8) (m + (j2 + 1)) 1 s = _
            rw [show m + (j2 + 1) = (m + 1) + j2 by omega, c1, d1]
theorem pArgs_le {T : TT} {rv : Nat → Nat → PX} {kq N : Nat} (h0 : (T N).1 = 0) (hle : ∀ c kq z, c ≤ N → rv c kq = .inr z → z.1 ≤ N) : ∀ (f k : Nat) (z : PZ) (y : Nat × PZ), z.1 ≤ N → pArgs T rv kq f k z = .inr y → y.2.1 ≤ N
  | 0, k, z, y, hz, h => by cases h
  | f + 1, k, z, y, hz, h => by
    unfold pArgs at h
    by_cases g : k = 6
    · rw [if_pos g] at h; cases h
    · rw [if_neg g] at h
      cases hd : rv z.1 (kq + z.2.2.1.length) with
      | inl e => rw [hd] at h; cases h
      | inr w =>
        rw [hd] at h
        have hw := hle _ _ _ hz hd
        have lt : ∀ c : Int32, (T w.1).1 = c → ¬ c = 0 → w.1 + 1 ≤ N := by
          intro c e e0
          have : ¬ w.1 = N := fun q => e0 (by rw [← e, q, h0])
          omega
        by_cases g2 : (T w.1).1 = 44
        · simp only [if_pos g2] at h
          exact pArgs_le h0 hle f (k + 1) _ y (lt 44 g2 (by decide)) h
        · simp only [if_neg g2] at h
          by_cases g3 : (T w.1).1 = 41
          · simp only [if_pos g3] at h
            cases h
            exact lt 41 g3 (by decide)
          · simp only [if_neg g3] at h; cases h
/-- what stands behind an ATOM -/
theorem lp_post {B kq k0 : Nat} {rv : Nat → Nat → PX} {os0 : List Row} {ks0 : List Nat} (h0 : (mTT tx n N).1 = 0) (hkq : kq = 800 * b + ks0.length) (hW : W.length ≤ 58) (ho : o ≤ 12) (hos : os0.length + W.length ≤ B + k0) (hks : 4 * ks0.length ≤ k0) (hB : B ≤ 1500) (hN : N ≤ 3000)
    (hlen : ∀ c kq z, rv c kq = .inr z → lnZ c 0 z) (hle : o < 12 → ∀ c kq z, c ≤ N → rv c kq = .inr z → z.1 ≤ N) (hnot : o < 12 → ∀ c kq, isVal (mTT tx n c).1 = false → rv c kq = .inl (F2 (mTT tx n) c))
    (hr : o < 12 → ∀ (s1 : mjSt3) (c : Nat) (f1 : WF) (os1 : List Row) (ks1 : List Nat), ¬ f1.1 = 2 → ¬ f1.1 = 3 → MR tx n b s1 c (o + 1) (W ++ [f] ++ [f1]) os1 ks1 → os1.length + (W.length + 1) ≤ B + c → c ≤ N → 4 * ks1.length ≤ c → gV tx n b D N s1 c (o + 1) (W ++ [f] ++ [f1]) os1 ks1 (rv c (800 * b + ks1.length))) :
    ∀ (kf : Nat) (z : PZ) (s : mjSt3), lnZ k0 0 z → z.1 ≤ N → N < z.1 + kf → MR tx n b s z.1 o (W ++ [f]) (os0 ++ z.2.2.2.1) (ks0 ++ z.2.2.1) → s.1 97 77 = z.2.1 → match pPost (mTT tx n) (pCall (mTT tx n) rv o) kq kf z with
      | .inl e => FZ (mTT tx n) b N (fun m => lE (D + 8) m 0 s) s z.1 e
      | .inr w => ∃ s' j, (∀ m, lE (D + 8) (m + j) 0 s = lE (D + 8) m 0 s') ∧ j + z.1 ≤ w.1 ∧ w.1 ≤ N ∧ ¬ (mTT tx n w.1).1 = 46 ∧ ¬ (mTT tx n w.1).1 = 20 ∧ MR tx n b s' w.1 o (W ++ [f]) (os0 ++ w.2.2.2.1) (ks0 ++ w.2.2.1) ∧ offE b s s' ∧ s'.1 97 77 = w.2.1 := by
  intro kf
  induction kf with
  | zero => intro z s _ hz hN'; omega
  | succ kf ih =>
    intro z s hln hz hN' h hsh
    obtain ⟨z1, z2, z3⟩ := hln
    have lt : ∀ (x : Nat) (c : Int32), x ≤ N → (mTT tx n x).1 = c → ¬ c = 0 → x < N := by
      intro x c hx e e0
      have : ¬ x = N := fun q => e0 (by rw [← e, q, h0])
      omega
    have L1 : (os0 ++ z.2.2.2.1).length = os0.length + z.2.2.2.1.length := List.length_append
    have L2 : (ks0 ++ z.2.2.1).length = ks0.length + z.2.2.1.length := List.length_append
    have eK : kq + z.2.2.1.length = 800 * b + (ks0 ++ z.2.2.1).length := by rw [L2, hkq, Nat.add_assoc]
    unfold pPost
    by_cases h20 : (mTT tx n z.1).1 = 20
    · have hz1 := lt z.1 20 hz h20 (by decide)
      rw [if_pos h20]
      have P := p_as (D := D) h (by omega) (by rw [L1]; omega) (by rw [L2]; omega) h20
      cases hd : pKind (mTT tx n) (z.1 + 1) with
      | inl e =>
        rw [hd] at P
        obtain ⟨s1, e1, y1, r1⟩ := P
        exact FZ.one (j := 2) e1 (by omega) hz y1 (by rw [L1]; omega) r1
      | inr c' =>
        rw [hd] at P
        obtain ⟨s1, e1, a1, r1, g1⟩ := P
        have hc' := pKind_len hd
        have hcN : c' ≤ N := by
          have u := x_kind (d := 0) (p := 0) (o := 0) (v := 0) (ag := fun _ => 0) (sTH_ok (T := mTT tx n) hN h0) (c := z.1 + 1) hz1
          rw [hd] at u
          exact u.1
        rw [← eK, List.append_assoc os0, List.append_assoc ks0] at a1
        have I := ih (c', 0, z.2.2.1 ++ [z.1 + 1], z.2.2.2.1 ++ [(14, (mTT tx n z.1).2.1, nI (kq + z.2.2.1.length), 0, 0)], z.2.2.2.2) s1 ⟨by show k0 < c'; omega, by simp only [List.length_append, List.length_singleton]; omega, by simp only [List.length_append, List.length_singleton]; omega⟩ hcN (by show N < c' + kf; omega) a1 g1
        show match pPost (mTT tx n) (pCall (mTT tx n) rv o) kq kf (c', 0, z.2.2.1 ++ [z.1 + 1], z.2.2.2.1 ++ [(14, (mTT tx n z.1).2.1, nI (kq + z.2.2.1.length), 0, 0)], z.2.2.2.2) with
          | .inl e => _
          | .inr w => _
        cases hp : pPost (mTT tx n) (pCall (mTT tx n) rv o) kq kf (c', 0, z.2.2.1 ++ [z.1 + 1], z.2.2.2.1 ++ [(14, (mTT tx n z.1).2.1, nI (kq + z.2.2.1.length), 0, 0)], z.2.2.2.2) with
        | inl e =>
          rw [hp] at I
          exact FZ.via I (j := 1) e1 r1 (by show 1 + z.1 ≤ c'; omega) hcN
        | inr w =>
          rw [hp] at I
          obtain ⟨s5, j5, i1, i2, i3, i4, i5, i6, i7, i8⟩ := I
          have i2' : j5 + c' ≤ w.1 := i2
          refine ⟨s5, j5 + 1, fun m => ?_, by omega, i3, i4, i5, i6, r1.tr i7, i8⟩
          rw [show m + (j5 + 1) = (m + j5) + 1 by omega, e1, i1]
    · rw [if_neg h20]
      by_cases h46 : (mTT tx n z.1).1 = 46
      · have hz1 := lt z.1 46 hz h46 (by decide)
        rw [if_pos h46]
        obtain ⟨P1, P2, P3⟩ := p_dot (D := D) h (by omega) (by rw [L1]; omega) h46
        by_cases h3 : (mTT tx n (z.1 + 1)).1 = 3
        · have hz2 := lt (z.1 + 1) 3 (by omega) h3 (by decide)
          rw [if_pos h3]
          by_cases h40 : (mTT tx n (z.1 + 2)).1 = 40
          · have hz3 := lt (z.1 + 2) 40 (by omega) h40 (by decide)
            rw [if_pos h40]
            obtain ⟨Q1, Q2, Q3, Q4⟩ := P3 h3 h40
            have go : ∀ (y : PZ) (s1 : mjSt3) (j : Nat), lnZ (z.1 + 2) 1 y → y.1 ≤ N → (∀ m, lE (D + 8) (m + j) 0 s = lE (D + 8) m 0 s1) → j + z.1 ≤ y.1 → MR tx n b s1 y.1 o (W ++ [f]) (os0 ++ z.2.2.2.1 ++ y.2.2.2.1) (ks0 ++ z.2.2.1 ++ y.2.2.1) → offE b s s1 → s1.1 97 77 = 3 → match pPost (mTT tx n) (pCall (mTT tx n) rv o) kq kf (y.1, 3, z.2.2.1 ++ y.2.2.1, z.2.2.2.1 ++ y.2.2.2.1, z.2.2.2.2 ++ y.2.2.2.2) with
                | .inl e => FZ (mTT tx n) b N (fun m => lE (D + 8) m 0 s) s z.1 e
                | .inr w => ∃ s' j, (∀ m, lE (D + 8) (m + j) 0 s = lE (D + 8) m 0 s') ∧ j + z.1 ≤ w.1 ∧ w.1 ≤ N ∧ ¬ (mTT tx n w.1).1 = 46 ∧ ¬ (mTT tx n w.1).1 = 20 ∧ MR tx n b s' w.1 o (W ++ [f]) (os0 ++ w.2.2.2.1) (ks0 ++ w.2.2.1) ∧ offE b s s' ∧ s'.1 97 77 = w.2.1 := by
              intro y s1 j ly hy run hj a1 r1 g1
              obtain ⟨y1, y2, y3⟩ := ly
              rw [List.append_assoc os0, List.append_assoc ks0] at a1
              have I := ih (y.1, 3, z.2.2.1 ++ y.2.2.1, z.2.2.2.1 ++ y.2.2.2.1, z.2.2.2.2 ++ y.2.2.2.2) s1 ⟨by show k0 < y.1; omega, by simp only [List.length_append]; omega, by simp only [List.length_append]; omega⟩ hy (by show N < y.1 + kf; omega) a1 g1
              cases hp : pPost (mTT tx n) (pCall (mTT tx n) rv o) kq kf (y.1, 3, z.2.2.1 ++ y.2.2.1, z.2.2.2.1 ++ y.2.2.2.1, z.2.2.2.2 ++ y.2.2.2.2) with
              | inl e =>
                rw [hp] at I
                exact FZ.via I run r1 (by show j + z.1 ≤ y.1; omega) hy
              | inr w =>
                rw [hp] at I
                obtain ⟨s5, j5, i1, i2, i3, i4, i5, i6, i7, i8⟩ := I
                have i2' : j5 + y.1 ≤ w.1 := i2
                refine ⟨s5, j5 + j, fun m => ?_, by omega, i3, i4, i5, i6, r1.tr i7, i8⟩
                rw [show m + (j5 + j) = (m + j5) + j by omega, run, i1]
            unfold pCall
            by_cases o12 : o = 12
            · obtain ⟨s1, e1, y1, r1⟩ := Q1 o12
              rw [if_pos o12]
              exact FZ.one (j := 2) e1 (by omega) hz y1 (by rw [L1]; omega) r1
            · have oo : o < 12 := by omega
              rw [if_neg o12]
              by_cases h41 : (mTT tx n (z.1 + 2 + 1)).1 = 41
              · have hz4 := lt (z.1 + 3) 41 (by omega) h41 (by decide)
                obtain ⟨s1, e1, a1, r1, g1⟩ := Q2 oo h41
                rw [if_pos h41]
                exact go (z.1 + 2 + 2, 3, [], [oAsk (mTT tx n) (z.1 + 2) 0, oCall (mTT tx n) (z.1 + 2) 0], [(z.1 + 2, 0)]) s1 1 ⟨by show z.1 + 2 < z.1 + 2 + 2; omega, by show 2 ≤ _; omega, by show 4 * 0 ≤ _; omega⟩ (by show z.1 + 4 ≤ N; omega) e1 (by show 1 + z.1 ≤ z.1 + 4; omega) (by
                  show MR tx n b s1 (z.1 + 4) o (W ++ [f]) _ (ks0 ++ z.2.2.1 ++ [])
                  rw [List.append_nil]
                  exact a1) r1 g1
              · rw [if_neg h41]
                by_cases hv : isVal (mTT tx n (z.1 + 3)).1 = true
                · obtain ⟨s1, e1, a1, r1⟩ := Q3 oo h41 hv
                  have hW1 : (W ++ [f]).length = W.length + 1 := by rw [List.length_append]; rfl
                  have R := lp_args (D := D) (W := W ++ [f]) (o := o) (B := B) (k0 := z.1 + 3) (a := (os0 ++ z.2.2.2.1).length) (pl := (mTT tx n (z.1 + 1)).2.1) (nm := (mTT tx n (z.1 + 1)).2.2.1) (rv := rv) (os0 := os0 ++ z.2.2.2.1 ++ [(11, (mTT tx n (z.1 + 1)).2.1, 0, 0, (mTT tx n (z.1 + 1)).2.2.1)]) (ks0 := ks0 ++ z.2.2.1) (kq := kq + z.2.2.1.length) h0 eK (by rw [hW1]; omega) (by rw [List.length_append, L1, hW1]; show os0.length + z.2.2.2.1.length + 1 + (W.length + 1) + 1 ≤ _; omega) (by rw [L2]; omega) hB hN (by rw [List.getElem?_append_right (Nat.le_refl _), Nat.sub_self]; rfl) hlen (hle oo) (hnot oo) (fun s2 c f1 os1 ks1 g1 g2 m1 m2 m3 m4 => hr oo s2 c f1 os1 ks1 g1 g2 m1 (by rw [hW1] at m2; exact m2) m3 m4) 7 0 (z.1 + 2 + 1, 0, [], [], []) s1 (by omega) (by omega) ⟨by show z.1 + 3 ≤ z.1 + 3; omega, by show 0 ≤ _; omega, by show 4 * 0 ≤ _; omega⟩ hz3 hv (by
                    rw [List.append_nil, List.append_nil]
                    exact a1)
                  show match (match (match pArgs (mTT tx n) rv (kq + z.2.2.1.length) 7 0 (z.1 + 2 + 1, 0, [], [], []) with
                      | .inl e => .inl e
                      | .inr y => .inr (y.2.1, 3, y.2.2.2.1, oAsk (mTT tx n) (z.1 + 2) y.1 :: (y.2.2.2.2.1 ++ [oCall (mTT tx n) (z.1 + 2) y.1]), y.2.2.2.2.2 ++ [(z.1 + 2, y.1)]) : PX) with
                    | .inl e => .inl e
                    | .inr y => pPost (mTT tx n) (pCall (mTT tx n) rv o) kq kf (y.1, 3, z.2.2.1 ++ y.2.2.1, z.2.2.2.1 ++ y.2.2.2.1, z.2.2.2.2 ++ y.2.2.2.2) : PX) with
                    | .inl e => _
                    | .inr w => _
                  cases hA : pArgs (mTT tx n) rv (kq + z.2.2.1.length) 7 0 (z.1 + 2 + 1, 0, [], [], []) with
                  | inl e =>
                    rw [hA] at R
                    exact FZ.via R (j := 1) e1 r1 (by show 1 + z.1 ≤ z.1 + 3; omega) hz3
                  | inr y =>
                    rw [hA] at R
                    obtain ⟨s2, j2, i1, i2, i3, i4, i5⟩ := R
                    have i2' : j2 + (z.1 + 3) ≤ y.2.1 := i2
                    have ly := pArgs_len (c := z.1 + 3) hlen 7 0 (z.1 + 2 + 1, 0, [], [], []) y ⟨Nat.le_refl _, by show 0 ≤ _; omega, by show 4 * 0 ≤ _; omega⟩ hA
                    obtain ⟨l1, l2, l3⟩ := ly
                    have hyN : y.2.1 ≤ N := pArgs_le h0 (hle oo) 7 0 (z.1 + 2 + 1, 0, [], [], []) y hz3 hA
                    refine go (y.2.1, 3, y.2.2.2.1, oAsk (mTT tx n) (z.1 + 2) y.1 :: (y.2.2.2.2.1 ++ [oCall (mTT tx n) (z.1 + 2) y.1]), y.2.2.2.2.2 ++ [(z.1 + 2, y.1)]) s2 (j2 + 1) ⟨by show z.1 + 2 < y.2.1; omega, by simp only [List.length_cons, List.length_append, List.length_nil]; omega, by show 4 * y.2.2.2.1.length ≤ y.2.1 - (z.1 + 2); omega⟩ hyN (fun m => ?_) (by show j2 + 1 + z.1 ≤ y.2.1; omega) ?_ (r1.tr i4) i5
                    · rw [show m + (j2 + 1) = (m + j2) + 1 by omega, e1, i1]
                    · have es : (os0 ++ z.2.2.2.1 ++ [((11 : Int32), (mTT tx n (z.1 + 1)).2.1, (0 : Int32), (0 : Int32), (mTT tx n (z.1 + 1)).2.2.1)] ++ y.2.2.2.2.1).set (os0 ++ z.2.2.2.1).length (11, (mTT tx n (z.1 + 1)).2.1, 0, nI y.1, (mTT tx n (z.1 + 1)).2.2.1) ++ [(13, (mTT tx n (z.1 + 1)).2.1, nI y.1, 0, (mTT tx n (z.1 + 1)).2.2.1)] = os0 ++ z.2.2.2.1 ++ (oAsk (mTT tx n) (z.1 + 2) y.1 :: (y.2.2.2.2.1 ++ [oCall (mTT tx n) (z.1 + 2) y.1])) := by
                        rw [List.append_assoc (os0 ++ z.2.2.2.1), List.set_append_right _ _ (Nat.le_refl _), Nat.sub_self, List.append_assoc (os0 ++ z.2.2.2.1)]
                        rfl
                      rw [es] at i3
                      exact i3
                · have hv' : isVal (mTT tx n (z.1 + 3)).1 = false := by simpa using hv
                  obtain ⟨s1, e1, y1, r1⟩ := Q4 oo h41 hv'
                  have eA : pArgs (mTT tx n) rv (kq + z.2.2.1.length) 7 0 (z.1 + 2 + 1, 0, [], [], []) = .inl (F2 (mTT tx n) (z.1 + 3)) := by
                    unfold pArgs
                    rw [if_neg (by decide), hnot oo (z.1 + 3) _ hv']
                  rw [eA]
                  exact FZ.one (j := 2) e1 (by omega) hz y1 (by rw [L1]; omega) r1
          · rw [if_neg h40]
            obtain ⟨s1, e1, a1, r1, g1⟩ := P2 h3 h40
            rw [List.append_assoc os0] at a1
            have I := ih (z.1 + 2, 2, z.2.2.1, z.2.2.2.1 ++ [(10, (mTT tx n (z.1 + 1)).2.1, 0, 0, (mTT tx n (z.1 + 1)).2.2.1)], z.2.2.2.2) s1 ⟨by show k0 < z.1 + 2; omega, by simp only [List.length_append, List.length_singleton]; omega, by show 4 * z.2.2.1.length ≤ z.1 + 2 - k0; omega⟩ (by show z.1 + 2 ≤ N; omega) (by show N < z.1 + 2 + kf; omega) a1 g1
            cases hp : pPost (mTT tx n) (pCall (mTT tx n) rv o) kq kf (z.1 + 2, 2, z.2.2.1, z.2.2.2.1 ++ [(10, (mTT tx n (z.1 + 1)).2.1, 0, 0, (mTT tx n (z.1 + 1)).2.2.1)], z.2.2.2.2) with
            | inl e =>
              rw [hp] at I
              exact FZ.via I (j := 1) e1 r1 (by show 1 + z.1 ≤ z.1 + 2; omega) (by show z.1 + 2 ≤ N; omega)
            | inr w =>
              rw [hp] at I
              obtain ⟨s5, j5, i1, i2, i3, i4, i5, i6, i7, i8⟩ := I
              have i2' : j5 + (z.1 + 2) ≤ w.1 := i2
              refine ⟨s5, j5 + 1, fun m => ?_, by omega, i3, i4, i5, i6, r1.tr i7, i8⟩
              rw [show m + (j5 + 1) = (m + j5) + 1 by omega, e1, i1]
        · rw [if_neg h3]
          obtain ⟨s1, e1, y1, r1⟩ := P1 h3
          exact FZ.one (j := 2) e1 (by omega) hz y1 (by rw [L1]; omega) r1
      · rw [if_neg h46]
        exact ⟨s, 0, fun m => rfl, by omega, hz, h46, h20, h, offG.rf, hsh⟩
end MJ80
end
section
/-! ===== the reference reads an E so: all of it ===== -/
/-- so the reference reads, for fuel f -/
def mE (tx : Nat → Int32) (n b D N B f : Nat) : Prop := ∀ (o k : Nat) (s : mjSt3) (W : List WF) (f0 : WF) (os : List Row) (ks : List Nat), o ≤ 12 → k ≤ N → os.length + W.length ≤ B + k → 4 * ks.length ≤ k → MR tx n b s k o (W ++ [f0]) os ks →
  (6 * (12 - o) + 7 ≤ f → W.length ≤ 4 * o → ¬ f0.1 = 2 → ¬ f0.1 = 3 → gV tx n b D N s k o (W ++ [f0]) os ks (prE (mTT tx n) (N + 1) f 0 o k (800 * b + ks.length))) ∧
  (6 * (12 - o) + 6 ≤ f → W.length ≤ 4 * o + 1 → ¬ f0.1 = 2 → (¬ f0.1 = 3 ∨ lvO f0.2.1 < 2) → gP tx n b D N s k o (W ++ [f0]) os ks 2 (prE (mTT tx n) (N + 1) f 1 o k (800 * b + ks.length))) ∧
  (6 * (12 - o) + 5 ≤ f → W.length ≤ 4 * o + 2 → ¬ f0.1 = 2 → (¬ f0.1 = 3 ∨ lvO f0.2.1 < 3) → gP tx n b D N s k o (W ++ [f0]) os ks 1 (prE (mTT tx n) (N + 1) f 2 o k (800 * b + ks.length))) ∧
  (6 * (12 - o) + 4 ≤ f → W.length ≤ 4 * o + 3 → gU tx n b D N s k o (W ++ [f0]) os ks (prE (mTT tx n) (N + 1) f 3 o k (800 * b + ks.length))) ∧
  (6 * (12 - o) + 3 ≤ f → W.length ≤ 4 * o + 3 → ¬ (mTT tx n k).1 = 45 → gE tx n b D N s k o (W ++ [f0]) os ks (prE (mTT tx n) (N + 1) f 4 o k (800 * b + ks.length)) ∧ ∀ z, prE (mTT tx n) (N + 1) f 4 o k (800 * b + ks.length) = .inr z → ¬ (mTT tx n z.1).1 = 46 ∧ ¬ (mTT tx n z.1).1 = 20) ∧
  (6 * (12 - o) + 2 ≤ f → W.length ≤ 4 * o + 3 → ¬ (mTT tx n k).1 = 45 → gE tx n b D N s k o (W ++ [f0]) os ks (prE (mTT tx n) (N + 1) f 5 o k (800 * b + ks.length)))
section MJ81
variable {tx : Nat → Int32} {n b D k o N B f : Nat} {s : mjSt3} {W : List WF} {f0 : WF} {os : List Row} {ks : List Nat}
theorem mE_5 (h0 : (mTT tx n N).1 = 0) (hN : N ≤ 3000) (hB : B ≤ 1500) (ih : mE tx n b D N B f) (ho : o ≤ 12) (hk : k ≤ N) (hos : os.length + W.length ≤ B + k) (hks : 4 * ks.length ≤ k) (h : MR tx n b s k o (W ++ [f0]) os ks) (hf : 6 * (12 - o) + 2 ≤ f + 1) (hW : W.length ≤ 4 * o + 3) (h45 : ¬ (mTT tx n k).1 = 45) : gE tx n b D N s k o (W ++ [f0]) os ks (prE (mTT tx n) (N + 1) (f + 1) 5 o k (800 * b + ks.length)) := by
  have one : ∀ (s1 : mjSt3) (z : PZ), step1 (D + 8) 1 s 0 s1 → k < z.1 → MR tx n b s1 z.1 o (W ++ [f0]) (os ++ z.2.2.2.1) (ks ++ z.2.2.1) → offE b s s1 → s1.1 97 77 = z.2.1 → gE tx n b D N s k o (W ++ [f0]) os ks (.inr z) := fun s1 z e hz a r g => ⟨s1, 1, e, by omega, a, r, g⟩
  have bad : ∀ e, FZ (mTT tx n) b N (fun m => lE (D + 8) m 1 s) s k e → gE tx n b D N s k o (W ++ [f0]) os ks (.inl e) := fun e x => x
  have hmj := mjN_v
  rw [prE_5]
  unfold pAtom
  by_cases k3 : (mTT tx n k).1 = 3
  · rw [if_pos k3]
    obtain ⟨s1, e, a, r, g⟩ := a_name (D := D) h (by omega) (by omega) k3
    refine one s1 _ e (Nat.lt_succ_self k) ?_ r g
    show MR tx n b s1 (k + 1) o _ _ (ks ++ [])
    rw [List.append_nil]
    exact a
  rw [if_neg k3]
  by_cases k4 : (mTT tx n k).1 = 4
  · rw [if_pos k4]
    obtain ⟨s1, e, a, r, g⟩ := a_num (D := D) h (by omega) (by omega) k4
    refine one s1 _ e (Nat.lt_succ_self k) ?_ r g
    show MR tx n b s1 (k + 1) o _ _ (ks ++ [])
    rw [List.append_nil]
    exact a
  rw [if_neg k4]
  by_cases k11 : (mTT tx n k).1 = 11
  · rw [if_pos k11]
    obtain ⟨s1, e, a, r, g⟩ := a_null (D := D) h (by omega) (by omega) k11
    refine one s1 _ e (Nat.lt_succ_self k) ?_ r g
    show MR tx n b s1 (k + 1) o _ _ (ks ++ [])
    rw [List.append_nil]
    exact a
  rw [if_neg k11]
  by_cases k12 : (mTT tx n k).1 = 12
  · rw [if_pos k12]
    obtain ⟨s1, e, a, r, g⟩ := a_this (D := D) h (by omega) (by omega) k12
    refine one s1 _ e (Nat.lt_succ_self k) ?_ r g
    show MR tx n b s1 (k + 1) o _ _ (ks ++ [])
    rw [List.append_nil]
    exact a
  rw [if_neg k12]
  by_cases k14 : (mTT tx n k).1 = 14
  · rw [if_pos k14]
    have P := a_new (D := D) h (by omega) (by omega) (by omega) k14
    cases hd : pKind (mTT tx n) (k + 1) with
    | inl x =>
      rw [hd] at P
      obtain ⟨s1, e1, z1, r1⟩ := P
      exact bad _ (FZ.one (j := 2) e1 (by omega) hk z1 (by omega) r1)
    | inr c' =>
      rw [hd] at P
      obtain ⟨s1, e, a, r, g⟩ := P
      have hc' := pKind_len hd
      exact one s1 (c', 0, [k + 1], [(7, (mTT tx n k).2.1, nI (800 * b + ks.length), 0, 0)], []) e (by show k < c'; omega) a r g
  rw [if_neg k14]
  by_cases k40 : (mTT tx n k).1 = 40
  · rw [if_pos k40]
    have hkN : k < N := by
      have : ¬ k = N := fun q => absurd (show (0 : Int32) = 40 by rw [← k40, q, h0]) (by decide)
      omega
    obtain ⟨A1, A2⟩ := a_open (D := D) h (by omega) (Or.inl k40)
    by_cases o12 : o = 12
    · obtain ⟨s1, e1, z1, r1⟩ := A2 o12
      rw [if_pos o12]
      exact bad _ (FZ.one (j := 2) e1 (by omega) hk z1 (by omega) r1)
    · obtain ⟨s1, x, e1, a1, r1⟩ := A1 (by omega)
      rw [if_neg o12]
      rw [if_neg h45] at a1
      have L : (W ++ [f0]).length = W.length + 1 := by rw [List.length_append]; rfl
      have C := (ih (o + 1) (k + 1) s1 (W ++ [f0]) _ os ks (by omega) hkN (by rw [L]; omega) (by omega) a1).1 (by omega) (by rw [L]; omega) (fun e => absurd (show (1 : Int32) = 2 from e) (by decide)) (fun e => absurd (show (1 : Int32) = 3 from e) (by decide))
      cases hd : prE (mTT tx n) (N + 1) f 0 (o + 1) (k + 1) (800 * b + ks.length) with
      | inl e =>
        rw [hd] at C
        have C' : FZ (mTT tx n) b N (fun m => lE (D + 8) m 1 s1) s1 (k + 1) e := C
        exact bad _ (FZ.via C' (j := 1) e1 r1 (by omega) hkN)
      | inr y =>
        rw [hd] at C
        obtain ⟨b1, b2, b3⟩ : lnZ (k + 1) 0 y := prE_len f 0 _ _ _ y (by omega) hd
        have hyN := (prE_le hN h0 (show o + 1 ≤ 12 by omega) (show k + 1 ≤ N from hkN)).1 (by omega) hd
        by_cases hc : isCmp (mTT tx n y.1).1 = true
        · have n41 : ¬ (mTT tx n y.1).1 = 41 := fun e => by rw [e] at hc; exact absurd hc (by decide)
          simp only [if_neg n41]
          exact bad _ (FZ.via (C.1 hc) (j := 1) e1 r1 (by omega) hkN)
        · obtain ⟨s2, j2, q2, c1, c2, c3, c4, c5, c6⟩ := C.2 hc
          obtain ⟨q2, rfl⟩ : ∃ x, q2 = x + 1 := ⟨q2 - 1, by omega⟩
          have E := e_paren (D := D) c4 (by rw [L]; omega) (by rw [List.length_append]; omega) rfl
          by_cases h41 : (mTT tx n y.1).1 = 41
          · obtain ⟨s3, d1, d2, d3, d4⟩ := E.1 h41
            simp only [if_pos h41]
            refine ⟨s3, j2 + 1, fun m => ?_, by show j2 + 1 + k ≤ y.1 + 1; omega, ?_, r1.tr (c5.tr d3), d4⟩
            · rw [show m + (j2 + 1) = (m + j2) + 1 by omega, e1, c1, d1]
            · rw [List.append_assoc os] at d2
              exact d2
          · obtain ⟨s3, d1, d2, d3⟩ := E.2 h41
            simp only [if_neg h41]
            refine ⟨s3, j2 + 2, _, fun m => ?_, by omega, d2, by rw [List.length_append]; omega, r1.tr (c5.tr d3)⟩
            show lE (D + 8) (m + (j2 + 2)) 1 s = _
            rw [show m + (j2 + 2) = ((m + 1) + j2) + 1 by omega, e1, c1, d1]
  rw [if_neg k40]
  have hv : isVal (mTT tx n k).1 = false := by
    simp only [isVal, decide_eq_false_iff_not]
    rintro (e | e | e | e | e | e | e)
    · exact k3 e
    · exact k4 e
    · exact k11 e
    · exact k12 e
    · exact k14 e
    · exact k40 e
    · exact h45 e
  exact bad _ (FZ.one (j := 2) (a_not (D := D) h (by omega) hv) (by omega) hk (m_wz h) (by omega) (bS_off _ _))
theorem mE_4 (h0 : (mTT tx n N).1 = 0) (hN : N ≤ 3000) (hB : B ≤ 1500) (ih : mE tx n b D N B (f + 1)) (ih' : mE tx n b D N B f) (ho : o ≤ 12) (hk : k ≤ N) (hos : os.length + W.length ≤ B + k) (hks : 4 * ks.length ≤ k) (h : MR tx n b s k o (W ++ [f0]) os ks) (hf : 6 * (12 - o) + 3 ≤ f + 2) (hW : W.length ≤ 4 * o + 3) (h45 : ¬ (mTT tx n k).1 = 45) : gE tx n b D N s k o (W ++ [f0]) os ks (prE (mTT tx n) (N + 1) (f + 2) 4 o k (800 * b + ks.length)) ∧ ∀ z, prE (mTT tx n) (N + 1) (f + 2) 4 o k (800 * b + ks.length) = .inr z → ¬ (mTT tx n z.1).1 = 46 ∧ ¬ (mTT tx n z.1).1 = 20 := by
  have bad : ∀ e, FZ (mTT tx n) b N (fun m => lE (D + 8) m 1 s) s k e → gE tx n b D N s k o (W ++ [f0]) os ks (.inl e) ∧ ∀ z, (Sum.inl e : PX) = .inr z → ¬ (mTT tx n z.1).1 = 46 ∧ ¬ (mTT tx n z.1).1 = 20 := fun e x => ⟨x, fun z hz => by cases hz⟩
  rw [prE_4]
  have A := (ih o k s W f0 os ks ho hk hos hks h).2.2.2.2.2 (by omega) hW h45
  cases hd : prE (mTT tx n) (N + 1) (f + 1) 5 o k (800 * b + ks.length) with
  | inl e =>
    rw [hd] at A
    exact bad e A
  | inr z =>
    rw [hd] at A
    obtain ⟨s1, j1, a1, a2, a3, a4, a5⟩ := A
    have hz := (prE_le hN h0 ho hk).2.2.2.2.2 (by omega) hd
    have hz' : lnZ k 0 z := prE_len (f + 1) 5 _ _ _ z (by omega) hd
    have P := lp_post (D := D) (W := W) (f := f0) (o := o) (B := B) (k0 := k) (kq := 800 * b + ks.length) (rv := prE (mTT tx n) (N + 1) f 0 (o + 1)) (os0 := os) (ks0 := ks) h0 rfl (by omega) ho hos hks hB hN (fun c kq z e => prE_len f 0 _ c kq z (by omega) e) (fun oo c kq z hc e => (prE_le hN h0 (show o + 1 ≤ 12 by omega) hc).1 (by omega) e) (fun oo c kq hv => by
        obtain ⟨g, rfl⟩ : ∃ x, f = x + 6 := ⟨f - 6, by omega⟩
        exact pV_not hv) (fun oo s2 c f1 os1 ks1 g1 g2 m1 m2 m3 m4 => (ih' (o + 1) c s2 (W ++ [f0]) f1 os1 ks1 (by omega) m3 (by rw [List.length_append]; exact m2) m4 m1).1 (by omega) (by rw [List.length_append]; show W.length + 1 ≤ _; omega) g1 g2) (N + 1) z s1 hz' hz (by omega) a3 a5
    show gE tx n b D N s k o (W ++ [f0]) os ks (pPost (mTT tx n) (pCall (mTT tx n) (prE (mTT tx n) (N + 1) f 0 (o + 1)) o) (800 * b + ks.length) (N + 1) z) ∧ ∀ w, pPost (mTT tx n) (pCall (mTT tx n) (prE (mTT tx n) (N + 1) f 0 (o + 1)) o) (800 * b + ks.length) (N + 1) z = .inr w → ¬ (mTT tx n w.1).1 = 46 ∧ ¬ (mTT tx n w.1).1 = 20
    cases hp : pPost (mTT tx n) (pCall (mTT tx n) (prE (mTT tx n) (N + 1) f 0 (o + 1)) o) (800 * b + ks.length) (N + 1) z with
    | inl e =>
      rw [hp] at P
      have P' : FZ (mTT tx n) b N (fun m => lE (D + 8) m 0 s1) s1 z.1 e := P
      exact bad e (FZ.via P' a1 a4 a2 hz)
    | inr w =>
      rw [hp] at P
      obtain ⟨s5, j5, i1, i2, i3, i4, i5, i6, i7, i8⟩ := P
      refine ⟨⟨s5, j5 + j1, fun m => ?_, by omega, i6, a4.tr i7, i8⟩, fun w' e => ?_⟩
      · rw [show m + (j5 + j1) = (m + j5) + j1 by omega, a1, i1]
      · cases e
        exact ⟨i4, i5⟩
theorem mE_3 (h0 : (mTT tx n N).1 = 0) (hN : N ≤ 3000) (hB : B ≤ 1500) (ih : mE tx n b D N B f) (ho : o ≤ 12) (hk : k ≤ N) (hos : os.length + W.length ≤ B + k) (hks : 4 * ks.length ≤ k) (h : MR tx n b s k o (W ++ [f0]) os ks) (hf : 6 * (12 - o) + 4 ≤ f + 1) (hW : W.length ≤ 4 * o + 3) : gU tx n b D N s k o (W ++ [f0]) os ks (prE (mTT tx n) (N + 1) (f + 1) 3 o k (800 * b + ks.length)) := by
  have bad : ∀ e, FZ (mTT tx n) b N (fun m => lE (D + 8) m 1 s) s k e → gU tx n b D N s k o (W ++ [f0]) os ks (.inl e) := fun e x => x
  have hmj := mjN_v
  have L : (W ++ [f0]).length = W.length + 1 := by rw [List.length_append]; rfl
  rw [prE_3]
  by_cases k45 : (mTT tx n k).1 = 45
  · rw [if_pos k45]
    have hkN : k < N := by
      have : ¬ k = N := fun q => absurd (show (0 : Int32) = 45 by rw [← k45, q, h0]) (by decide)
      omega
    obtain ⟨A1, A2⟩ := a_open (D := D) h (by omega) (Or.inr k45)
    by_cases o12 : o = 12
    · obtain ⟨s1, e1, z1, r1⟩ := A2 o12
      rw [if_pos o12]
      exact bad _ (FZ.one (j := 2) e1 (by omega) hk z1 (by omega) r1)
    · obtain ⟨s1, x, e1, a1, r1⟩ := A1 (by omega)
      rw [if_neg o12]
      rw [if_pos k45] at a1
      have C := (ih (o + 1) (k + 1) s1 (W ++ [f0]) _ os ks (by omega) hkN (by rw [L]; omega) (by omega) a1).2.2.2.1 (by omega) (by rw [L]; omega)
      cases hd : prE (mTT tx n) (N + 1) f 3 (o + 1) (k + 1) (800 * b + ks.length) with
      | inl e =>
        rw [hd] at C
        have C' : FZ (mTT tx n) b N (fun m => lE (D + 8) m 1 s1) s1 (k + 1) e := C
        exact bad _ (FZ.via C' (j := 1) e1 r1 (by omega) hkN)
      | inr y =>
        rw [hd] at C
        obtain ⟨b1, b2, b3⟩ : lnZ (k + 1) 0 y := prE_len f 3 _ _ _ y (by omega) hd
        have hyN := (prE_le hN h0 (show o + 1 ≤ 12 by omega) (show k + 1 ≤ N from hkN)).2.2.2.1 (by omega) hd
        obtain ⟨s2, j2, q2, c1, c2, c3, c4, c5, c6⟩ := C
        obtain ⟨q2, rfl⟩ : ∃ x, q2 = x + 1 := ⟨q2 - 1, by omega⟩
        obtain ⟨s3, d1, d2, d3, d4⟩ := mQ_minus (D := D + 7) c4 (by rw [L]; omega) (by rw [List.length_append]; omega)
        refine ⟨s3, j2 + 1, q2, fun m => ?_, by show j2 + 1 + k ≤ y.1 + 1; omega, by omega, ?_, r1.tr (c5.tr d3), d4⟩
        · rw [show m + (j2 + 1) = (m + j2) + 1 by omega, e1, c1, d1]
        · rw [List.append_assoc os] at d2
          exact d2
  · rw [if_neg k45]
    obtain ⟨A, A'⟩ := (ih o k s W f0 os ks ho hk hos hks h).2.2.2.2.1 (by omega) hW k45
    cases hd : prE (mTT tx n) (N + 1) f 4 o k (800 * b + ks.length) with
    | inl e =>
      rw [hd] at A
      exact bad e A
    | inr z =>
      rw [hd] at A
      obtain ⟨s1, j1, a1, a2, a3, a4, a5⟩ := A
      obtain ⟨n46, n20⟩ := A' z hd
      refine ⟨s1, j1 + 1, mjN, fun m => ?_, by omega, by omega, a3, a4, a5⟩
      rw [show m + (j1 + 1) = (m + 1) + j1 by omega, a1]
      exact lE_mid (D := D + 7) a3 (by omega) n46 n20
theorem mE_2 (h0 : (mTT tx n N).1 = 0) (hN : N ≤ 3000) (hB : B ≤ 1500) (ih : mE tx n b D N B f) (ho : o ≤ 12) (hk : k ≤ N) (hos : os.length + W.length ≤ B + k) (hks : 4 * ks.length ≤ k) (h : MR tx n b s k o (W ++ [f0]) os ks) (hf : 6 * (12 - o) + 5 ≤ f + 1) (hW : W.length ≤ 4 * o + 2) (hf2 : ¬ f0.1 = 2) (hf3 : ¬ f0.1 = 3 ∨ lvO f0.2.1 < 3) : gP tx n b D N s k o (W ++ [f0]) os ks 1 (prE (mTT tx n) (N + 1) (f + 1) 2 o k (800 * b + ks.length)) := by
  have bad : ∀ e, FZ (mTT tx n) b N (fun m => lE (D + 8) m 1 s) s k e → gP tx n b D N s k o (W ++ [f0]) os ks 1 (.inl e) := fun e x => x
  have hmj := mjN_v
  rw [prE_2]
  have A := (ih o k s W f0 os ks ho hk hos hks h).2.2.2.1 (by omega) (by omega)
  cases hd : prE (mTT tx n) (N + 1) f 3 o k (800 * b + ks.length) with
  | inl e =>
    rw [hd] at A
    exact bad e A
  | inr z =>
    rw [hd] at A
    obtain ⟨s1, j1, q1, a1, a2, aq, a3, a4, a5⟩ := A
    obtain ⟨q1, rfl⟩ : ∃ x, q1 = x + 1 := ⟨q1 - 1, by omega⟩
    have hz := (prE_le hN h0 ho hk).2.2.2.1 (by omega) hd
    have hz' : lnZ k 0 z := prE_len f 3 _ _ _ z (by omega) hd
    have P := lp_two (D := D) (W := W) (f := f0) (sg := isPro) (lv := 3) (y := 1) (B := B) (k0 := k) (o := o) (kq := 800 * b + ks.length) (rd := prE (mTT tx n) (N + 1) f 3 o) (os0 := os) (ks0 := ks) (Or.inl ⟨rfl, rfl⟩) (fun K g => lvl_pro g) (fun K _ g => (lvl_le K).2.1 g) rfl (by omega) h0 (by decide) hf3 hos hks hB hN (fun c kq z e => prE_len f 3 _ c kq z (by omega) e) (fun c kq z hc e => (prE_le hN h0 ho hc).2.2.2.1 (by omega) e) (fun s2 c f1 os1 ks1 g1 g2 m1 m2 m3 m4 => by
        have C := (ih o c s2 (W ++ [f0]) f1 os1 ks1 ho m3 (by rw [List.length_append]; exact m2) m4 m1).2.2.2.1 (by omega) (by rw [List.length_append]; show W.length + 1 ≤ _; omega)
        cases hd2 : prE (mTT tx n) (N + 1) f 3 o c (800 * b + ks1.length) with
        | inl e => rw [hd2] at C; exact C
        | inr w =>
          rw [hd2] at C
          obtain ⟨s3, j3, q3, c1, c2, c3, c4, c5, c6⟩ := C
          obtain ⟨q3, rfl⟩ : ∃ x, q3 = x + 1 := ⟨q3 - 1, by omega⟩
          refine ⟨s3, j3, mjN, fun m => ?_, c2, by omega, (lvl_le _).1, c4, c5, c6⟩
          rw [c1]
          exact mQ_1 (D := D + 7) c4 (by rw [List.length_append]; show W.length + 1 < 64; omega) g1) (N + 1) z s1 mjN hz' hz (by omega) a3 a5 (by omega) (lvl_le _).1
    have run : ∀ m, lE (D + 8) (m + j1) 1 s = m1Q (D + 8) m mjN (lvl (mTT tx n z.1).1) s1 := fun m => by
      rw [a1]
      exact mQ_1 (D := D + 7) a3 (by omega) hf2
    show gP tx n b D N s k o (W ++ [f0]) os ks 1 (pLoop (mTT tx n) isPro (prE (mTT tx n) (N + 1) f 3 o) (800 * b + ks.length) (N + 1) z)
    cases hp : pLoop (mTT tx n) isPro (prE (mTT tx n) (N + 1) f 3 o) (800 * b + ks.length) (N + 1) z with
    | inl e =>
      rw [hp] at P
      have P' : FZ (mTT tx n) b N (fun m => m1Q (D + 8) m mjN (lvl (mTT tx n z.1).1) s1) s1 (z.1 + 1) e := P
      exact bad e (FZ.via2 P' run a4 a2 (by omega))
    | inr w =>
      rw [hp] at P
      obtain ⟨s5, j5, q5, i1, i2, i3, i4, i5, i6, i7⟩ := P
      refine ⟨s5, j5 + j1, q5, fun m => ?_, by omega, i3, i4, i5, a4.tr i6, i7⟩
      rw [show m + (j5 + j1) = (m + j5) + j1 by omega, run, i1]
theorem mE_1 (h0 : (mTT tx n N).1 = 0) (hN : N ≤ 3000) (hB : B ≤ 1500) (ih : mE tx n b D N B f) (ho : o ≤ 12) (hk : k ≤ N) (hos : os.length + W.length ≤ B + k) (hks : 4 * ks.length ≤ k) (h : MR tx n b s k o (W ++ [f0]) os ks) (hf : 6 * (12 - o) + 6 ≤ f + 1) (hW : W.length ≤ 4 * o + 1) (hf2 : ¬ f0.1 = 2) (hf3 : ¬ f0.1 = 3 ∨ lvO f0.2.1 < 2) : gP tx n b D N s k o (W ++ [f0]) os ks 2 (prE (mTT tx n) (N + 1) (f + 1) 1 o k (800 * b + ks.length)) := by
  have bad : ∀ e, FZ (mTT tx n) b N (fun m => lE (D + 8) m 1 s) s k e → gP tx n b D N s k o (W ++ [f0]) os ks 2 (.inl e) := fun e x => x
  have hmj := mjN_v
  rw [prE_1]
  have A := (ih o k s W f0 os ks ho hk hos hks h).2.2.1 (by omega) (by omega) hf2 (hf3.imp_right (fun x => by omega))
  cases hd : prE (mTT tx n) (N + 1) f 2 o k (800 * b + ks.length) with
  | inl e =>
    rw [hd] at A
    exact bad e A
  | inr z =>
    rw [hd] at A
    obtain ⟨s1, j1, q1, a1, a2, aq, al, a3, a4, a5⟩ := A
    have hz := (prE_le hN h0 ho hk).2.2.1 (by omega) hd
    have hz' : lnZ k 0 z := prE_len f 2 _ _ _ z (by omega) hd
    have P := lp_two (D := D) (W := W) (f := f0) (sg := isSum) (lv := 2) (y := 2) (B := B) (k0 := k) (o := o) (kq := 800 * b + ks.length) (rd := prE (mTT tx n) (N + 1) f 2 o) (os0 := os) (ks0 := ks) (Or.inr ⟨rfl, rfl⟩) (fun K g => lvl_sum g) (fun K hl g => (lvl_le K).2.2.1 (fun p => by rw [(lvl_pro p).1] at hl; omega) g) rfl (by omega) h0 (by decide) hf3 hos hks hB hN (fun c kq z e => prE_len f 2 _ c kq z (by omega) e) (fun c kq z hc e => (prE_le hN h0 ho hc).2.2.1 (by omega) e) (fun s2 c f1 os1 ks1 g1 g2 m1 m2 m3 m4 => by
        have C := (ih o c s2 (W ++ [f0]) f1 os1 ks1 ho m3 (by rw [List.length_append]; exact m2) m4 m1).2.2.1 (by omega) (by rw [List.length_append]; show W.length + 1 ≤ _; omega) g1 (Or.inr (by omega))
        cases hd2 : prE (mTT tx n) (N + 1) f 2 o c (800 * b + ks1.length) with
        | inl e => rw [hd2] at C; exact C
        | inr w => rw [hd2] at C; exact C) (N + 1) z s1 q1 hz' hz (by omega) a3 a5 (by omega) al
    show gP tx n b D N s k o (W ++ [f0]) os ks 2 (pLoop (mTT tx n) isSum (prE (mTT tx n) (N + 1) f 2 o) (800 * b + ks.length) (N + 1) z)
    cases hp : pLoop (mTT tx n) isSum (prE (mTT tx n) (N + 1) f 2 o) (800 * b + ks.length) (N + 1) z with
    | inl e =>
      rw [hp] at P
      have P' : FZ (mTT tx n) b N (fun m => m1Q (D + 8) m q1 (lvl (mTT tx n z.1).1) s1) s1 (z.1 + 1) e := P
      exact bad e (FZ.via2 P' a1 a4 a2 (by omega))
    | inr w =>
      rw [hp] at P
      obtain ⟨s5, j5, q5, i1, i2, i3, i4, i5, i6, i7⟩ := P
      refine ⟨s5, j5 + j1, q5, fun m => ?_, by omega, i3, i4, i5, a4.tr i6, i7⟩
      rw [show m + (j5 + j1) = (m + j5) + j1 by omega, a1, i1]
theorem mE_0 (h0 : (mTT tx n N).1 = 0) (hN : N ≤ 3000) (hB : B ≤ 1500) (ih : mE tx n b D N B f) (ho : o ≤ 12) (hk : k ≤ N) (hos : os.length + W.length ≤ B + k) (hks : 4 * ks.length ≤ k) (h : MR tx n b s k o (W ++ [f0]) os ks) (hf : 6 * (12 - o) + 7 ≤ f + 1) (hW : W.length ≤ 4 * o) (hf2 : ¬ f0.1 = 2) (hf3 : ¬ f0.1 = 3) : gV tx n b D N s k o (W ++ [f0]) os ks (prE (mTT tx n) (N + 1) (f + 1) 0 o k (800 * b + ks.length)) := by
  have bad : ∀ e, FZ (mTT tx n) b N (fun m => lE (D + 8) m 1 s) s k e → gV tx n b D N s k o (W ++ [f0]) os ks (.inl e) := fun e x => x
  have hmj := mjN_v
  have L : (W ++ [f0]).length = W.length + 1 := by rw [List.length_append]; rfl
  rw [prE_0]
  have A := (ih o k s W f0 os ks ho hk hos hks h).2.1 (by omega) (by omega) hf2 (Or.inl hf3)
  cases hd : prE (mTT tx n) (N + 1) f 1 o k (800 * b + ks.length) with
  | inl e =>
    rw [hd] at A
    exact bad e A
  | inr z =>
    rw [hd] at A
    obtain ⟨s1, j1, q1, a1, a2, aq, al, a3, a4, a5⟩ := A
    obtain ⟨q1, rfl⟩ : ∃ x, q1 = x + 1 := ⟨q1 - 1, by omega⟩
    have hz := (prE_le hN h0 ho hk).2.1 (by omega) hd
    obtain ⟨z1, z2, z3⟩ : lnZ k 0 z := prE_len f 1 _ _ _ z (by omega) hd
    have zl : ∀ K, lvl K ≤ 1 → ¬ isCmp K = true → lvl K = 0 := fun K hl g => (lvl_le K).2.2.2 (fun p => by rw [(lvl_pro p).1] at hl; omega) (fun p => by rw [(lvl_sum p).1] at hl; omega) g
    by_cases hc : isCmp (mTT tx n z.1).1 = true
    · have hzN : z.1 < N := by
        have : ¬ z.1 = N := fun q => by rw [q, h0] at hc; exact absurd hc (by decide)
        omega
      have gl := lvl_cmp hc
      simp only [if_pos hc]
      obtain ⟨s2, x, e2, b2, r2, g2⟩ := m1Q_push (D := D + 4) a3 (by omega) gl.1 (by omega) (Or.inl hf3)
      have L1 : (os ++ z.2.2.2.1).length = os.length + z.2.2.2.1.length := List.length_append
      have L2 : (ks ++ z.2.2.1).length = ks.length + z.2.2.1.length := List.length_append
      have C := (ih o (z.1 + 1) s2 (W ++ [f0]) _ (os ++ z.2.2.2.1) (ks ++ z.2.2.1) ho hzN (by rw [L, L1]; omega) (by rw [L2]; omega) b2).2.1 (by omega) (by rw [L]; omega) (fun e => absurd (show (3 : Int32) = 2 from e) (by decide)) (Or.inr (by rw [gl.2]; omega))
      rw [L2, ← Nat.add_assoc] at C
      have run : ∀ m, lE (D + 8) (m + j1) 1 s = lE (D + 8) m 1 s2 := fun m => by rw [a1, gl.1]; exact e2 m q1
      cases hd2 : prE (mTT tx n) (N + 1) f 1 o (z.1 + 1) (800 * b + ks.length + z.2.2.1.length) with
      | inl e =>
        rw [hd2] at C
        have C' : FZ (mTT tx n) b N (fun m => lE (D + 8) m 1 s2) s2 (z.1 + 1) e := C
        exact bad e (FZ.via C' run (a4.tr r2) a2 hzN)
      | inr y =>
        rw [hd2] at C
        obtain ⟨y1, y2, y3⟩ : lnZ (z.1 + 1) 0 y := prE_len f 1 _ _ _ y (by omega) hd2
        have hyN := (prE_le hN h0 ho (show z.1 + 1 ≤ N from hzN)).2.1 (by omega) hd2
        obtain ⟨s3, j3, q3, c1, c2, c3, c4, c5, c6, c7⟩ := C
        obtain ⟨q3, rfl⟩ : ∃ x, q3 = x + 1 := ⟨q3 - 1, by omega⟩
        have run2 : ∀ m, lE (D + 8) (m + (j3 + j1)) 1 s = m1Q (D + 8) m (q3 + 1) (lvl (mTT tx n y.1).1) s3 := fun m => by
          rw [show m + (j3 + j1) = (m + j3) + j1 by omega, run, c1]
        refine ⟨fun hc2 => ?_, fun hc2 => ?_⟩
        · have hc2' : isCmp (mTT tx n y.1).1 = true := hc2
          have gl2 := lvl_cmp hc2'
          refine ⟨_, j3 + j1 + 1, _, fun m => ?_, by omega, m_wz c5, by rw [List.length_append, L1]; omega, a4.tr (r2.tr (c6.tr (bS_off _ _)))⟩
          show lE (D + 8) (m + (j3 + j1 + 1)) 1 s = _
          rw [show m + (j3 + j1 + 1) = (m + 1) + (j3 + j1) by omega, run2, gl2.1]
          exact m1Q_cmp (D := D + 6) c5 (by rw [L]; omega) gl.2
        · have l0 := zl _ c4 hc2
          obtain ⟨s4, d1, d2, d3, d4⟩ := m1Q_two (D := D + 7) (l := 0) c5 (by rw [L]; omega) (by rw [List.length_append, L1]; omega) (by omega) (by rw [gl.2]; omega) (by omega)
          refine ⟨s4, j3 + j1, q3, fun m => ?_, by show j3 + j1 + k ≤ y.1 + 1; omega, by omega, ?_, a4.tr (r2.tr (c6.tr d3)), d4⟩
          · rw [run2, l0]
            exact d1 m q3
          · have e4 : os ++ z.2.2.2.1 ++ y.2.2.2.1 ++ [((9 : Int32), (mTT tx n z.1).2.1, nbr (mTT tx n z.1).1 0, (0 : Int32), (0 : Int64))] = os ++ (z.2.2.2.1 ++ y.2.2.2.1 ++ [oTwo (mTT tx n) z.1]) := by
              simp only [List.append_assoc]; rfl
            rw [e4, List.append_assoc ks] at d2
            exact d2
    · simp only [if_neg hc]
      refine ⟨fun g => absurd g hc, fun _ => ⟨s1, j1, q1 + 1, fun m => ?_, a2, by omega, a3, a4, a5⟩⟩
      rw [a1, zl _ al hc]
theorem mE_ok (h0 : (mTT tx n N).1 = 0) (hN : N ≤ 3000) (hB : B ≤ 1500) (f : Nat) : mE tx n b D N B f := by
  induction f using Nat.strongRecOn with
  | ind f ih =>
    intro o k s W f0 os ks ho hk hos hks h
    obtain rfl | ⟨f, rfl⟩ : f = 0 ∨ ∃ x, f = x + 1 := by
      cases f with
      | zero => exact Or.inl rfl
      | succ f => exact Or.inr ⟨f, rfl⟩
    · refine ⟨fun h => ?_, fun h => ?_, fun h => ?_, fun h => ?_, fun h => ?_, fun h => ?_⟩ <;> omega
    · have i1 := ih f (by omega)
      refine ⟨fun g1 g2 g3 g4 => mE_0 h0 hN hB i1 ho hk hos hks h g1 g2 g3 g4, fun g1 g2 g3 g4 => mE_1 h0 hN hB i1 ho hk hos hks h g1 g2 g3 g4, fun g1 g2 g3 g4 => mE_2 h0 hN hB i1 ho hk hos hks h g1 g2 g3 g4, fun g1 g2 => mE_3 h0 hN hB i1 ho hk hos hks h g1 g2, fun g1 g2 g3 => ?_, fun g1 g2 g3 => mE_5 h0 hN hB i1 ho hk hos hks h g1 g2 g3⟩
      obtain ⟨f, rfl⟩ : ∃ x, f = x + 1 := ⟨f - 1, by omega⟩
      exact mE_4 h0 hN hB i1 (ih f (by omega)) ho hk hos hks h g1 g2 g3
end MJ81
end
section
/-! ===== the reference's readE ===== -/
section MJ82
variable {tx : Nat → Int32} {n b D k o N B : Nat} {s : mjSt3} {W : List WF} {os : List Row} {ks : List Nat}
/-- nothing waits -/
theorem MR.clr (h : MR tx n b s k o W os ks) : MR tx n b (uI s 97 (upd (s.1 97) 76 0)) k o [] os ks := by
  obtain ⟨⟨a1, a2⟩, ⟨b1, b2, b3, b4⟩, ⟨c1, c2⟩, ⟨d1, d2⟩, e1, e2⟩ := h
  have g : ∀ i, ¬ i = 76 → (uI s 97 (upd (s.1 97) 76 0)).1 97 i = s.1 97 i := fun i e => by rw [uI_same]; exact if_neg e
  have q : ∀ x, ¬ x = 97 → (uI s 97 (upd (s.1 97) 76 0)).1 x = s.1 x := fun x e => uI_ne _ _ _ _ e
  have f7 : ∀ i, i < 7 → upd (s.1 97) 76 0 i = s.1 97 i := fun i e => if_neg (by omega)
  refine ⟨⟨mb_w f7 a1, mt_w f7 a2⟩, ⟨b1, ?_, ?_, ?_⟩, ⟨?_, fun i f hf => ?_⟩, ⟨?_, fun i x hx => ?_⟩, ?_, fun i t ht => ?_⟩
  · rw [g 61 (by omega), b2]
  · rw [g 63 (by omega), b3]
  · rw [g 64 (by omega), b4]
  · rw [uI_same]; exact if_pos rfl
  · cases hf
  · rw [q 122 (by decide), d1]
  · unfold Rw
    rw [q 143 (by decide), q 144 (by decide), q 145 (by decide), q 146 (by decide)]
    exact d2 i x hx
  · rw [q 121 (by decide), e1]
  · unfold Kd
    rw [q 137 (by decide), q 138 (by decide), q 141 (by decide)]
    exact e2 i t ht
theorem lE_end {m : Nat} {w : Int32} (h : MR tx n b s k o [] os ks) : lE D (m + 1) w s = some (none, mjW0 s) := by
  unfold lE
  rw [L287_S]
  unfold b_287_18
  rw [xg_97_61, h.2.1.2.1, if_pos rfl, xg_97_76, h.2.2.1.1, if_pos (show nI ([] : List WF).length ≤ 0 by decide)]
/-- behind readE -/
def gVal (tx : Nat → Int32) (n b : Nat) (s : mjSt3) (u : mjU) (o : Nat) (os : List Row) (ks : List Nat) (r : PX) : Prop := match r with
  | .inl e => ∃ s' x, u = some (none, mjW0 s') ∧ MZ (mTT tx n) b s' e x ∧ x ≤ 4700 ∧ offE b s s'
  | .inr z => (isCmp (mTT tx n z.1).1 = true → ∃ s' x, u = some (none, mjW0 s') ∧ MZ (mTT tx n) b s' (F2 (mTT tx n) z.1) x ∧ x ≤ 4700 ∧ offE b s s') ∧ (¬ isCmp (mTT tx n z.1).1 = true → ∃ s', u = some (none, mjW0 s') ∧ MR tx n b s' z.1 o [] (os ++ z.2.2.2.1) (ks ++ z.2.2.1) ∧ offE b s s' ∧ s'.1 97 77 = z.2.1)
theorem m_E (h0 : (mTT tx n N).1 = 0) (hN : N ≤ 3000) (hB : B ≤ 1500) (ho : o ≤ 12) (hk : k ≤ N) (hos : os.length ≤ B + k) (hks : 4 * ks.length ≤ k) (h : MR tx n b s k o W os ks) : gVal tx n b s (mjF (D + 10) 287 [.ref 97] (mjW0 s)) o os ks (prV (mTT tx n) (N + 1) o k (800 * b + ks.length)) := by
  have hmj := mjN_v
  have a1 := h.clr
  obtain ⟨s2, x, e2, a2, r2, f2⟩ := m_waits (d := D + 8) a1 (show ([] : List WF).length < 64 by decide) 0 0 (mTT tx n k).2.1 0
  have r : offE b s s2 := (w97_off (by omega)).tr r2
  have pre : mjF (D + 10) 287 [.ref 97] (mjW0 s) = lE (D + 8) mjN 1 s2 := by
    rw [e_287]
    unfold f_287 b_287_0
    rw [xp_97_76, xg_97_4, a1.at.2.2.1, xV_97, e2, bN_s]
    rfl
  have C := (mE_ok (D := D) (b := b) h0 hN hB 100 o k s2 [] _ os ks ho hk (by show os.length + 0 ≤ _; omega) hks a2).1 (by omega) (by show 0 ≤ _; omega) (fun e => absurd (show (0 : Int32) = 2 from e) (by decide)) (fun e => absurd (show (0 : Int32) = 3 from e) (by decide))
  have zz : ∀ e, FZ (mTT tx n) b N (fun m => lE (D + 8) m 1 s2) s2 k e → ∃ s' x, mjF (D + 10) 287 [.ref 97] (mjW0 s) = some (none, mjW0 s') ∧ MZ (mTT tx n) b s' e x ∧ x ≤ 4700 ∧ offE b s s' := by
    intro e g
    obtain ⟨s3, j, y, g1, g2, g3, g4, g5⟩ := g
    refine ⟨s3, y, ?_, g3, g4, r.tr g5⟩
    rw [pre, show mjN = (mjN - j) + j by omega]
    exact g1 _
  unfold prV
  cases hd : prE (mTT tx n) (N + 1) 100 0 o k (800 * b + ks.length) with
  | inl e =>
    rw [hd] at C
    exact zz e C
  | inr z =>
    rw [hd] at C
    have hz := (prE_le hN h0 ho hk).1 (by omega) hd
    refine ⟨fun hc => zz _ (C.1 hc), fun hc => ?_⟩
    obtain ⟨s3, j, q, c1, c2, c3, c4, c5, c6⟩ := C.2 hc
    obtain ⟨q, rfl⟩ : ∃ x, q = x + 1 := ⟨q - 1, by omega⟩
    obtain ⟨s4, d1, d2, d3, d4⟩ := e_base (D := D) c4 (show ([] : List WF).length < 64 by decide) rfl
    refine ⟨s4, ?_, d2, r.tr (c5.tr d3), d4.trans c6⟩
    rw [pre, show mjN = ((mjN - j - 1) + 1) + j by omega, c1, d1]
    exact lE_end d2
end MJ82
end
section
/-! ===== the reference's open blocks ===== -/
/-- sort, jump, top of an open block -/
abbrev SF : Type := Int32 × Int32 × Int32
/-- td told, S open -/
def MS (s : mjSt3) (td : Nat) (S : List SF) : Prop := s.1 97 67 = nI td ∧ s.1 97 71 = nI S.length ∧ ∀ i f, S[i]? = some f → s.1 148 i = f.1 ∧ s.1 149 i = f.2.1 ∧ s.1 150 i = f.2.2
section MJ83
variable {tx : Nat → Int32} {n b d k o td : Nat} {s s' : mjSt3} {W : List WF} {os : List Row} {ks : List Nat} {S : List SF}
theorem MS.off (h : MS s td S) (r : offE b s s') : MS s' td S := by
  obtain ⟨h1, h2, h3⟩ := h
  have q : ∀ x i, ¬ chE b x i → s'.1 x i = s.1 x i := r.1
  refine ⟨?_, ?_, fun i f hf => ?_⟩
  · rw [q 97 67 (by unfold chE; omega), h1]
  · rw [q 97 71 (by unfold chE; omega), h2]
  · rw [q 148 i (by unfold chE; omega), q 149 i (by unfold chE; omega), q 150 i (by unfold chE; omega)]
    exact h3 i f hf
/-- toHere -/
theorem m_here (h : MR tx n b s k o W os ks) (hl : os.length < 4990) {i : Nat} {r : Row} (hr : os[i]? = some r) : ∃ s', mjF (d + 1) 283 [.ref 97, .int (nI i)] (mjW0 s) = some (none, mjW0 s') ∧ MR tx n b s' k o W (os.set i (r.1, r.2.1, nI os.length, r.2.2.2)) ks ∧ offE b s s' := by
  have hb := h.2.1.1
  have hi := (List.getElem?_eq_some_iff.mp hr).1
  refine ⟨_, ?_, h.setR (v := nI os.length) hr (Or.inr (Or.inr (Or.inl ⟨rfl, rfl⟩))), setR_off (by omega) (by omega)⟩
  rw [e_283]
  unfold f_283 b_283_0
  rw [xg_97_56, xg_97_63, h.2.1.2.2.1, xg_97_33, xg_97_63, h.2.1.2.2.1, xa_122, if_pos (mj_in_nI (by omega) (by decide)), nI_clamp (by omega), h.2.2.2.1.1, idx5 hb, xs_145, if_pos (mj_in_nI (by omega) (by decide)), nI_clamp (by omega)]
end MJ83
end
section
/-! ===== the reference: a block begins ===== -/
/-- as offE, but told and the open blocks too -/
def chS (b h j : Nat) : Prop := chE b h j ∨ (h = 97 ∧ (j = 67 ∨ j = 71)) ∨ (148 ≤ h ∧ h ≤ 150)
def offS (b : Nat) : mjSt3 → mjSt3 → Prop := offG (chS b) (chEL b)
section MJ84
variable {tx : Nat → Int32} {n b d k o td : Nat} {s s' : mjSt3} {W : List WF} {os : List Row} {ks : List Nat} {S : List SF}
theorem offS_of (h : offE b s s') : offS b s s' := offG.mono h (fun _ _ q => Or.inl q) (fun _ _ q => q)
theorem MR.wS (h : MR tx n b s k o W os ks) {x : Nat} {f : Nat → Int32} (hx : 148 ≤ x ∧ x ≤ 150) : MR tx n b (uI s x f) k o W os ks := by
  obtain ⟨⟨a1, a2⟩, ⟨b1, b2, b3, b4⟩, ⟨c1, c2⟩, ⟨d1, d2⟩, e1, e2⟩ := h
  have q : ∀ h, ¬ h = x → (uI s x f).1 h = s.1 h := fun h e => uI_ne _ _ _ _ e
  refine ⟨⟨?_, ?_⟩, ⟨b1, ?_, ?_, ?_⟩, ⟨?_, fun i f hf => ?_⟩, ⟨?_, fun j y hy => ?_⟩, ?_, fun i t ht => ?_⟩
  · unfold MB at a1 ⊢
    rw [q 97 (by omega), q 98 (by omega)]; exact a1
  · unfold MT at a2 ⊢
    rw [q 97 (by omega)]; exact a2
  · rw [q 97 (by omega), b2]
  · rw [q 97 (by omega), b3]
  · rw [q 97 (by omega), b4]
  · rw [q 97 (by omega), c1]
  · unfold Wt
    rw [q 151 (by omega), q 152 (by omega), q 153 (by omega), q 154 (by omega), q 182 (by omega)]
    exact c2 i f hf
  · rw [q 122 (by omega), d1]
  · unfold Rw
    rw [q 143 (by omega), q 144 (by omega), q 145 (by omega), q 146 (by omega)]
    exact d2 j y hy
  · rw [q 121 (by omega), e1]
  · unfold Kd
    rw [q 137 (by omega), q 138 (by omega), q 141 (by omega)]
    exact e2 i t ht
/-- beginBlock -/
theorem m_begin (h : MR tx n b s k o W os ks) (m : MS s td S) (hS : S.length < 16) (hl : os.length < 4990) (x y z : Int32) : ((mTT tx n k).1 = 123 → o < 12 → ∃ s', mjF (d + 6) 280 [.ref 97, .int x, .int y, .int z] (mjW0 s) = some (none, mjW0 s') ∧ MR tx n b s' (k + 1) (o + 1) W (os ++ [(26, (mTT tx n (k + 1)).2.1, 0, 0, 0)]) ks ∧ MS s' td (S ++ [(x, y, z)]) ∧ offS b s s') ∧ ((mTT tx n k).1 = 123 → o = 12 → ∃ s', mjF (d + 6) 280 [.ref 97, .int x, .int y, .int z] (mjW0 s) = some (none, mjW0 s') ∧ MZ (mTT tx n) b s' (3, k) os.length ∧ offS b s s') ∧ (¬ (mTT tx n k).1 = 123 → ∃ s', mjF (d + 6) 280 [.ref 97, .int x, .int y, .int z] (mjW0 s) = some (none, mjW0 s') ∧ MZ (mTT tx n) b s' (F2 (mTT tx n) k) os.length ∧ offS b s s') := by
  have zz : ∀ (s1 : mjSt3) (e : Nat × Nat), mjF (d + 5) 274 [.ref 97, .int 123] (mjW0 s) = some (none, mjW0 s1) → MZ (mTT tx n) b s1 e os.length → mjF (d + 6) 280 [.ref 97, .int x, .int y, .int z] (mjW0 s) = some (none, mjW0 s1) := by
    intro s1 e e1 z1
    have hp : ¬ nI e.1 ≤ 0 := by
      rcases z1.2.1 with q | q | q <;> rw [q] <;> decide
    rw [e_280]
    unfold f_280 b_280_0
    rw [xV_97, e1, bN_s, xg_97_61, z1.2.2.1, if_neg hp]
  refine ⟨fun e ho => ?_, fun e ho => ?_, fun e => ?_⟩
  · obtain ⟨s1, e1, a1, r1, f1⟩ := m_opens (d := d + 1) h (c := 123) (by decide) e ho
    obtain ⟨s2, e2, a2, r2, f2⟩ := m_order (d := d + 4) a1 hl 26 (mTT tx n (k + 1)).2.1 0 0
    have m2 := m.off (r1.tr r2)
    obtain ⟨t3, h3⟩ : ∃ t, t = uI s2 148 (upd (s2.1 148) S.length x) := ⟨_, rfl⟩
    have q3 : ∀ h, ¬ h = 148 → t3.1 h = s2.1 h := fun h e => by rw [h3]; exact uI_ne _ _ _ _ e
    have u3 : t3.1 148 = upd (s2.1 148) S.length x := by rw [h3, uI_same]
    have a3 : MR tx n b t3 (k + 1) (o + 1) W (os ++ [(26, (mTT tx n (k + 1)).2.1, 0, 0, 0)]) ks := by rw [h3]; exact a2.wS (by omega)
    have o3 : offS b s2 t3 := by rw [h3]; exact offG.w (by unfold chS; omega)
    obtain ⟨t4, h4⟩ : ∃ t, t = uI t3 149 (upd (t3.1 149) S.length y) := ⟨_, rfl⟩
    have q4 : ∀ h, ¬ h = 149 → t4.1 h = t3.1 h := fun h e => by rw [h4]; exact uI_ne _ _ _ _ e
    have u4 : t4.1 149 = upd (t3.1 149) S.length y := by rw [h4, uI_same]
    have a4 : MR tx n b t4 (k + 1) (o + 1) W (os ++ [(26, (mTT tx n (k + 1)).2.1, 0, 0, 0)]) ks := by rw [h4]; exact a3.wS (by omega)
    have o4 : offS b t3 t4 := by rw [h4]; exact offG.w (by unfold chS; omega)
    obtain ⟨t5, h5⟩ : ∃ t, t = uI t4 150 (upd (t4.1 150) S.length z) := ⟨_, rfl⟩
    have q5 : ∀ h, ¬ h = 150 → t5.1 h = t4.1 h := fun h e => by rw [h5]; exact uI_ne _ _ _ _ e
    have u5 : t5.1 150 = upd (t4.1 150) S.length z := by rw [h5, uI_same]
    have a5 : MR tx n b t5 (k + 1) (o + 1) W (os ++ [(26, (mTT tx n (k + 1)).2.1, 0, 0, 0)]) ks := by rw [h5]; exact a4.wS (by omega)
    have o5 : offS b t4 t5 := by rw [h5]; exact offG.w (by unfold chS; omega)
    obtain ⟨t6, h6⟩ : ∃ t, t = uI t5 97 (upd (t5.1 97) 71 (nI (S.length + 1))) := ⟨_, rfl⟩
    have q6 : ∀ h, ¬ h = 97 → t6.1 h = t5.1 h := fun h e => by rw [h6]; exact uI_ne _ _ _ _ e
    have u6 : t6.1 97 = upd (t5.1 97) 71 (nI (S.length + 1)) := by rw [h6, uI_same]
    have a6 : MR tx n b t6 (k + 1) (o + 1) W (os ++ [(26, (mTT tx n (k + 1)).2.1, 0, 0, 0)]) ks := by rw [h6]; exact a5.w97 (by omega)
    have o6 : offS b t5 t6 := by rw [h6]; exact offG.w (by unfold chS; omega)
    have g5 : t5.1 97 = s2.1 97 := by rw [q5 97 (by decide), q4 97 (by decide), q3 97 (by decide)]
    refine ⟨t6, ?_, a6, ⟨?_, ?_, fun i f hf => ?_⟩, ((offS_of (r1.tr r2)).tr o3).tr (o4.tr (o5.tr o6))⟩
    · rw [e_280]
      unfold f_280 b_280_0
      have n71 : nI S.length + (1 : Int32) = nI (S.length + 1) := by rw [show (1 : Int32) = nI 1 from rfl, nI_add]
      rw [xV_97, e1, bN_s, xg_97_61, a1.2.1.2.1, if_pos (by decide), xg_97_4, a1.at.2.2.1, xV_97, e2, bN_s, xg_97_68, xg_97_71, m2.2.1, xs_148, if_pos (mj_in_nI (by omega) (by decide)), nI_clamp (by omega), ← h3, xg_97_69, xg_97_71, q3 97 (by decide), m2.2.1, xs_149, if_pos (mj_in_nI (by omega) (by decide)), nI_clamp (by omega), ← h4, xg_97_70, xg_97_71, q4 97 (by decide), q3 97 (by decide), m2.2.1, xs_150, if_pos (mj_in_nI (by omega) (by decide)), nI_clamp (by omega), ← h5, xg_97_71, g5, m2.2.1, n71, xp_97_71, ← h6]
    · rw [u6, g5]
      exact m2.1
    · rw [u6, List.length_append]
      exact if_pos rfl
    · rw [q6 148 (by decide), q5 148 (by decide), q4 148 (by decide), u3, q6 149 (by decide), q5 149 (by decide), u4, q3 149 (by decide), q6 150 (by decide), u5, q4 150 (by decide), q3 150 (by decide)]
      by_cases ei : i = S.length
      · subst ei
        rw [List.getElem?_append_right (Nat.le_refl _), Nat.sub_self] at hf
        have ef : (x, y, z) = f := by simpa using hf
        subst ef
        exact ⟨if_pos rfl, if_pos rfl, if_pos rfl⟩
      · have hi : i < S.length := by
          have := (List.getElem?_eq_some_iff.mp hf).1
          rw [List.length_append] at this
          have : i < S.length + 1 := this
          omega
        rw [List.getElem?_append_left hi] at hf
        obtain ⟨p1, p2, p3⟩ := m2.2.2 i f hf
        exact ⟨(if_neg ei).trans p1, (if_neg ei).trans p2, (if_neg ei).trans p3⟩
  · subst ho
    obtain ⟨s1, e1, z1, r1⟩ := m_opens3 (d := d + 1) h (c := 123) (by decide) e
    exact ⟨s1, zz s1 _ e1 z1, z1, offS_of r1⟩
  · have e1 := m_opens2 (d := d + 1) h (c := 123) (by decide) e
    exact ⟨_, zz _ _ e1 (m_wz h), m_wz h, offS_of (bS_off _ _)⟩
end MJ84
end
section
/-! ===== the reference: return E; say E; ===== -/
section MJ85
variable {tx : Nat → Int32} {n b D k o td N B : Nat} {s : mjSt3} {W : List WF} {os : List Row} {ks : List Nat} {S : List SF}
/-- behind a STATEMENT that is no BLOCK -/
def gSt (tx : Nat → Int32) (n b : Nat) (s : mjSt3) (u : mjU) (o : Nat) (os : List Row) (ks : List Nat) (S : List SF) (r : PY) : Prop := match r with
  | .inl e => ∃ s' x, u = some (none, mjW0 s') ∧ MZ (mTT tx n) b s' e x ∧ x ≤ 4710 ∧ offS b s s'
  | .inr z => ∃ s' W', u = some (none, mjW0 s') ∧ MR tx n b s' z.1 o W' (os ++ z.2.2.2.1) (ks ++ z.2.2.1) ∧ MS s' z.2.1 S ∧ offS b s s'
theorem m_give (h0 : (mTT tx n N).1 = 0) (hN : N ≤ 3000) (hB : B ≤ 1500) (ho : o ≤ 12) (hk : k < N) (hos : os.length ≤ B + k) (hks : 4 * ks.length ≤ k) (h : MR tx n b s k o W os ks) (m : MS s td S) (h1 : ¬ (mTT tx n k).1 = 1) (w : Int32) : gSt tx n b s (b_284_207 (mjF (D + 10)) 97 (mTT tx n k).2.1 w (mjW0 s)) o os ks S (pGive (mTT tx n) (N + 1) o k td (800 * b + ks.length) w) := by
  obtain ⟨s1, e1, a1, r1, f1⟩ := m_order (d := D + 9) h (by omega) 1 (mTT tx n k).2.1 0 0
  obtain ⟨s2, e2, a2, r2, f2⟩ := m_next (d := D + 7) a1 h1
  have L : (os ++ [((1 : Int32), (mTT tx n k).2.1, (0 : Int32), (0 : Int32), (0 : Int64))]).length = os.length + 1 := by rw [List.length_append]; rfl
  have C := m_E (D := D) h0 hN hB ho (show k + 1 ≤ N from hk) (by rw [L]; omega) (by omega) a2
  have pre : b_284_207 (mjF (D + 10)) 97 (mTT tx n k).2.1 w (mjW0 s) = bN (mjF (D + 10) 287 [.ref 97] (mjW0 s2)) (fun hp3 => gI hp3 97 12 61 (fun v4 => (if v4 = 0 then rV hp3 97 12 (bN (mjF (D + 10) 270 [.ref 97, .int (59 : Int32)] hp3) (fun hp5 => b_284_237 (mjF (D + 10)) 97 (mTT tx n k).2.1 w hp5)) else b_284_237 (mjF (D + 10)) 97 (mTT tx n k).2.1 w hp3))) := by
    unfold b_284_207
    rw [xV_97, e1, bN_s, xV_97, e2, bN_s, xV_97]
  have r12 := r1.tr r2
  have bad : ∀ e, (∃ s' x, mjF (D + 10) 287 [.ref 97] (mjW0 s2) = some (none, mjW0 s') ∧ MZ (mTT tx n) b s' e x ∧ x ≤ 4700 ∧ offE b s2 s') → gSt tx n b s (b_284_207 (mjF (D + 10)) 97 (mTT tx n k).2.1 w (mjW0 s)) o os ks S (.inl e) := by
    rintro e ⟨s3, x, e3, z3, hx, r3⟩
    obtain ⟨s4, e4, z4, r4, f4⟩ := z_order (d := D + 9) z3 (by omega) w (mTT tx n k).2.1 1 0
    refine ⟨s4, _, ?_, z4, by omega, offS_of (r12.tr (r3.tr r4))⟩
    rw [pre, e3, bN_s, xg_97_61, if_neg z3.n0]
    unfold b_284_237
    rw [xV_97, e4, bN_s]
  unfold pGive
  cases hd : prV (mTT tx n) (N + 1) o (k + 1) (800 * b + ks.length) with
  | inl e =>
    rw [hd] at C
    exact bad e C
  | inr y =>
    rw [hd] at C
    obtain ⟨y1, y2, y3⟩ : lnZ (k + 1) 0 y := prE_len 100 0 _ _ _ y (by omega) hd
    have hyN := (prE_le hN h0 ho (show k + 1 ≤ N from hk)).1 (by omega) hd
    by_cases hc : isCmp (mTT tx n y.1).1 = true
    · have n59 : ¬ (mTT tx n y.1).1 = 59 := fun e => by rw [e] at hc; exact absurd hc (by decide)
      simp only [if_neg n59]
      exact bad _ (C.1 hc)
    · obtain ⟨s3, e3, a3, r3, f3⟩ := C.2 hc
      have L3 : (os ++ [((1 : Int32), (mTT tx n k).2.1, (0 : Int32), (0 : Int32), (0 : Int64))] ++ y.2.2.2.1).length = os.length + 1 + y.2.2.2.1.length := by rw [List.length_append, L]
      by_cases h59 : (mTT tx n y.1).1 = 59
      · simp only [if_pos h59]
        obtain ⟨s4, e4, a4, r4, f4⟩ := m_take (d := D + 6) a3 (c := 59) (by decide) h59
        obtain ⟨s5, e5, a5, r5, f5⟩ := m_order (d := D + 9) a4 (by rw [L3]; omega) w (mTT tx n k).2.1 1 0
        have rr := r12.tr (r3.tr (r4.tr r5))
        refine ⟨s5, [], ?_, ?_, m.off rr, offS_of rr⟩
        · rw [pre, e3, bN_s, xg_97_61, a3.2.1.2.1, if_pos rfl, xV_97, e4, bN_s]
          unfold b_284_237
          rw [xV_97, e5, bN_s]
        · rw [List.append_assoc, List.append_assoc] at a5
          exact a5
      · simp only [if_neg h59]
        have e4 := m_takeB (d := D + 6) a3 (c := 59) (by decide) h59
        obtain ⟨s5, e5, z5, r5, f5⟩ := z_order (d := D + 9) (m_wz a3) (by rw [L3]; omega) w (mTT tx n k).2.1 1 0
        refine ⟨s5, _, ?_, z5, by rw [L3]; omega, offS_of (r12.tr (r3.tr ((bS_off _ _).tr r5)))⟩
        rw [pre, e3, bN_s, xg_97_61, a3.2.1.2.1, if_pos rfl, xV_97, e4, bN_s]
        unfold b_284_237
        rw [xV_97, e5, bN_s]
end MJ85
end
section
/-! ===== the reference: a TYPE ===== -/
section MJ86
variable {tx : Nat → Int32} {n b d k o : Nat} {s : mjSt3} {W : List WF} {os : List Row} {ks : List Nat}
/-- readType -/
theorem m_type (h : MR tx n b s k o W os ks) (hm : ks.length < 790) : match pType (mTT tx n) k with
    | .inl e => ∃ s' v, mjF (d + 7) 277 [.ref 97] (mjW0 s) = some (some (.int v), mjW0 s') ∧ MZ (mTT tx n) b s' e os.length ∧ offE b s s'
    | .inr c' => ∃ s', mjF (d + 7) 277 [.ref 97] (mjW0 s) = some (some (.int (if (mTT tx n k).1 = 10 then -1 else nI (800 * b + ks.length))), mjW0 s') ∧ MR tx n b s' c' o W os (ks ++ (if (mTT tx n k).1 = 10 then [] else [k])) ∧ offE b s s' := by
  have A := h.at
  have S := v_srt A
  unfold pType
  by_cases h10 : (mTT tx n k).1 = 10
  · simp only [if_pos h10]
    obtain ⟨s1, e1, a1, r1, f1⟩ := m_next (d := d + 3) h (by rw [h10]; decide)
    refine ⟨s1, ?_, by rw [List.append_nil]; exact a1, r1⟩
    rw [e_277]
    unfold f_277 b_277_0
    rw [xV_97, v_type A, bI_s, i01, if_pos (show tyS (mTT tx n k).1 = true by rw [h10]; decide), xg_97_3, if_neg (fun q => absurd ((S.1.mp q).symm.trans h10) (by decide)), xV_97, e1, bN_s]
  · simp only [if_neg h10]
    by_cases h2 : (mTT tx n k).1 = 2
    · have kd := m_kind (d := d) h hm
      have pre : mjF (d + 7) 277 [.ref 97] (mjW0 s) = bI (mjF (d + 6) 272 [.ref 97] (mjW0 s)) (fun v5 hp6 => some (some (.int v5), hp6)) := by
        rw [e_277]
        unfold f_277 b_277_0
        rw [xV_97, v_type A, bI_s, i01, if_pos (show tyS (mTT tx n k).1 = true by rw [h2]; decide), xg_97_3, if_pos (S.1.mpr h2), xV_97]
      cases hd : pKind (mTT tx n) k with
      | inl e =>
        rw [hd] at kd
        obtain ⟨s1, v, e1, z1, r1⟩ := kd
        exact ⟨s1, v, by rw [pre, e1, bI_s], z1, r1.1⟩
      | inr c' =>
        rw [hd] at kd
        obtain ⟨s1, e1, a1, r1, f1⟩ := kd
        exact ⟨s1, by rw [pre, e1, bI_s], a1, r1⟩
    · have ep : pKind (mTT tx n) k = .inl (F2 (mTT tx n) k) := by
        unfold pKind
        rw [if_neg h2]
      rw [ep]
      refine ⟨_, -1, ?_, m_wz h, bS_off _ _⟩
      · rw [e_277]
        unfold f_277 b_277_0
        rw [xV_97, v_type A, bI_s, i01, if_neg (show ¬ tyS (mTT tx n k).1 = true by simp only [tyS, decide_eq_true_eq]; exact fun q => q.elim h10 h2), xV_97, m_wrong h, bN_s]
end MJ86
end
section
/-! ===== the reference: TYPE NAME = E; ===== -/
section MJ87A
variable {T : TT} {M : Nat}
theorem ap_ne {l : List Row} {a : Row} : l ++ [a] ≠ [] := by simp
theorem pLoop_ne {sg : Int32 → Bool} {rd : Nat → Nat → PX} {kq : Nat} : ∀ (k : Nat) (z y : PZ), z.2.2.2.1 ≠ [] → pLoop T sg rd kq k z = .inr y → y.2.2.2.1 ≠ []
  | 0, z, y, hz, h => by cases h; exact hz
  | k + 1, z, y, hz, h => by
    unfold pLoop at h
    by_cases g : sg (T z.1).1 = true
    · rw [if_pos g] at h
      cases hd : rd (z.1 + 1) (kq + z.2.2.1.length) with
      | inl e => rw [hd] at h; cases h
      | inr w =>
        rw [hd] at h
        exact pLoop_ne k _ y ap_ne h
    · rw [if_neg g] at h
      cases h
      exact hz
theorem pPost_ne {ra : Nat → Nat → PX} {kq : Nat} : ∀ (k : Nat) (z y : PZ), z.2.2.2.1 ≠ [] → pPost T ra kq k z = .inr y → y.2.2.2.1 ≠ []
  | 0, z, y, hz, h => by cases h; exact hz
  | k + 1, z, y, hz, h => by
    unfold pPost at h
    by_cases g : (T z.1).1 = 20
    · rw [if_pos g] at h
      cases hd : pKind T (z.1 + 1) with
      | inl e => rw [hd] at h; cases h
      | inr c' =>
        rw [hd] at h
        exact pPost_ne k _ y ap_ne h
    · rw [if_neg g] at h
      by_cases g2 : (T z.1).1 = 46
      · rw [if_pos g2] at h
        by_cases g3 : (T (z.1 + 1)).1 = 3
        · rw [if_pos g3] at h
          by_cases g4 : (T (z.1 + 2)).1 = 40
          · rw [if_pos g4] at h
            cases hd : ra (z.1 + 2) (kq + z.2.2.1.length) with
            | inl e => rw [hd] at h; cases h
            | inr w =>
              rw [hd] at h
              exact pPost_ne k _ y (by show z.2.2.2.1 ++ _ ≠ []; simp [hz]) h
          · rw [if_neg g4] at h
            exact pPost_ne k _ y ap_ne h
        · rw [if_neg g3] at h; cases h
      · rw [if_neg g2] at h
        cases h
        exact hz
/-- an E gives an order at least -/
theorem prE_ne : ∀ (f tag o c kq : Nat) (y : PZ), tag ≤ 5 → prE T M f tag o c kq = .inr y → y.2.2.2.1 ≠ []
  | 0, _, _, _, _, _, _, h => by cases h
  | f + 1, 0, o, c, kq, y, _, h => by
    rw [prE_0] at h
    cases hd : prE T M f 1 o c kq with
    | inl e => rw [hd] at h; cases h
    | inr z =>
      rw [hd] at h
      by_cases g : isCmp (T z.1).1 = true
      · simp only [if_pos g] at h
        cases hd2 : prE T M f 1 o (z.1 + 1) (kq + z.2.2.1.length) with
        | inl e => rw [hd2] at h; cases h
        | inr w =>
          rw [hd2] at h
          cases h
          exact ap_ne
      · simp only [if_neg g] at h
        cases h
        exact prE_ne f 1 o c kq _ (by omega) hd
  | f + 1, 1, o, c, kq, y, _, h => by
    rw [prE_1] at h
    cases hd : prE T M f 2 o c kq with
    | inl e => rw [hd] at h; cases h
    | inr z =>
      rw [hd] at h
      exact pLoop_ne M z y (prE_ne f 2 o c kq z (by omega) hd) h
  | f + 1, 2, o, c, kq, y, _, h => by
    rw [prE_2] at h
    cases hd : prE T M f 3 o c kq with
    | inl e => rw [hd] at h; cases h
    | inr z =>
      rw [hd] at h
      exact pLoop_ne M z y (prE_ne f 3 o c kq z (by omega) hd) h
  | f + 1, 3, o, c, kq, y, _, h => by
    rw [prE_3] at h
    by_cases g : (T c).1 = 45
    · rw [if_pos g] at h
      by_cases g2 : o = 12
      · rw [if_pos g2] at h; cases h
      · rw [if_neg g2] at h
        cases hd : prE T M f 3 (o + 1) (c + 1) kq with
        | inl e => rw [hd] at h; cases h
        | inr z =>
          rw [hd] at h
          cases h
          exact ap_ne
    · rw [if_neg g] at h
      exact prE_ne f 4 o c kq y (by omega) h
  | f + 1, 4, o, c, kq, y, _, h => by
    rw [prE_4] at h
    cases hd : prE T M f 5 o c kq with
    | inl e => rw [hd] at h; cases h
    | inr z =>
      rw [hd] at h
      exact pPost_ne M z y (prE_ne f 5 o c kq z (by omega) hd) h
  | f + 1, 5, o, c, kq, y, _, h => by
    rw [prE_5] at h
    unfold pAtom at h
    by_cases k3 : (T c).1 = 3
    · rw [if_pos k3] at h; cases h; exact List.cons_ne_nil _ _
    rw [if_neg k3] at h
    by_cases k4 : (T c).1 = 4
    · rw [if_pos k4] at h; cases h; exact List.cons_ne_nil _ _
    rw [if_neg k4] at h
    by_cases k11 : (T c).1 = 11
    · rw [if_pos k11] at h; cases h; exact List.cons_ne_nil _ _
    rw [if_neg k11] at h
    by_cases k12 : (T c).1 = 12
    · rw [if_pos k12] at h; cases h; exact List.cons_ne_nil _ _
    rw [if_neg k12] at h
    by_cases k14 : (T c).1 = 14
    · rw [if_pos k14] at h
      cases hd : pKind T (c + 1) with
      | inl e => rw [hd] at h; cases h
      | inr c' => rw [hd] at h; cases h; exact List.cons_ne_nil _ _
    rw [if_neg k14] at h
    by_cases k40 : (T c).1 = 40
    · rw [if_pos k40] at h
      by_cases g2 : o = 12
      · rw [if_pos g2] at h; cases h
      · rw [if_neg g2] at h
        cases hd : prE T M f 0 (o + 1) (c + 1) kq with
        | inl e => rw [hd] at h; cases h
        | inr z =>
          rw [hd] at h
          by_cases g3 : (T z.1).1 = 41
          · simp only [if_pos g3] at h
            cases h
            exact ap_ne
          · simp only [if_neg g3] at h; cases h
    · rw [if_neg k40] at h; cases h
theorem pType_le {N c c' : Nat} (hN : N ≤ 3000) (h0 : (T N).1 = 0) (hc : c ≤ N) (h : pType T c = .inr c') : c' ≤ N := by
  have r := x_type (d := 0) (p := 0) (o := 0) (v := 0) (ag := fun _ => 0) (sTH_ok hN h0) hc
  rw [h] at r
  exact r.1
theorem pType_len {c c' : Nat} (h : pType T c = .inr c') : c + 1 ≤ c' ∧ (¬ (T c).1 = 10 → c + 4 ≤ c') := by
  unfold pType at h
  by_cases e : (T c).1 = 10
  · rw [if_pos e] at h; cases h; exact ⟨Nat.le_refl _, fun q => absurd e q⟩
  · rw [if_neg e] at h
    have := pKind_len h
    exact ⟨by omega, fun _ => this⟩
theorem lt_N {N c : Nat} (hN : N ≤ 3000) (h0 : (T N).1 = 0) (hc : c ≤ N) {k : Int32} (hk : (T c).1 = k) (h1 : ¬ k = 0) : c < N := lt_of (sTH_ok hN h0) hc hk h1
end MJ87A
section MJ87
variable {tx : Nat → Int32} {n b D k o td N B : Nat} {s : mjSt3} {W : List WF} {os : List Row} {ks : List Nat} {S : List SF}
/-- readDeclare -/
theorem m_decl (h0 : (mTT tx n N).1 = 0) (hN : N ≤ 3000) (hB : B ≤ 1400) (ho : o ≤ 12) (hk : k ≤ N) (hos : os.length ≤ B + k) (hks : 4 * ks.length ≤ k) (htd : td ≤ 16) (h : MR tx n b s k o W os ks) (m : MS s td S) : gSt tx n b s (mjF (D + 11) 285 [.ref 97, .int (mTT tx n k).2.1] (mjW0 s)) o os ks S (pDecl (mTT tx n) (N + 1) o k td (800 * b + ks.length)) := by
  obtain ⟨s1, e1, a1, r1, f1⟩ := m_order (d := D + 9) h (by omega) 1 (mTT tx n k).2.1 0 0
  have L : (os ++ [((1 : Int32), (mTT tx n k).2.1, (0 : Int32), (0 : Int32), (0 : Int64))]).length = os.length + 1 := by rw [List.length_append]; rfl
  have ty := m_type (d := D + 3) a1 (by omega)
  rw [e_285]
  unfold f_285 b_285_0
  rw [xV_97, e1, bN_s, xV_97]
  unfold pDecl
  cases hd : pType (mTT tx n) k with
  | inl e =>
    rw [hd] at ty
    obtain ⟨s2, v, e2, z2, r2⟩ := ty
    refine ⟨s2, _, ?_, z2, by rw [L]; omega, offS_of (r1.tr r2)⟩
    rw [e2, bI_s, xg_97_61, if_neg z2.pos]
  | inr c1 =>
    rw [hd] at ty
    obtain ⟨s2, e2, a2, r2⟩ := ty
    have hc1 := pType_le hN h0 hk hd
    have hlen := pType_len hd
    have r12 := r1.tr r2
    have m2 := m.off r12
    rw [e2, bI_s, xg_97_61, a2.2.1.2.1, if_pos (show (0 : Int32) ≤ 0 by decide), xg_97_3]
    have S3 := (v_srt a2.at).2.1
    by_cases h3 : (mTT tx n c1).1 = 3
    · simp only [if_pos h3]
      have hl1 : c1 < N := lt_N hN h0 hc1 h3 (by decide)
      rw [if_pos (S3.mpr h3), xg_97_67, m2.1]
      by_cases h16 : td = 16
      · simp only [if_pos h16]
        rw [if_pos (show nI td = 16 by rw [h16]; rfl), xg_97_4, a2.at.2.2.1, xV_97, v_fail a2.2.1.2.1, bN_s]
        exact ⟨_, _, rfl, a2.z (e := (3, c1)) (Or.inr (Or.inr rfl)), by rw [L]; omega, offS_of (r12.tr (bS_off _ _))⟩
      · simp only [if_neg h16]
        obtain ⟨t3, h3t⟩ : ∃ t, t = uI s2 97 (upd (s2.1 97) 67 (nI (td + 1))) := ⟨_, rfl⟩
        have a3 : MR tx n b t3 c1 o W (os ++ [(1, (mTT tx n k).2.1, 0, 0, 0)]) (ks ++ (if (mTT tx n k).1 = 10 then [] else [k])) := by rw [h3t]; exact a2.w97 (by omega)
        have o3 : offS b s2 t3 := by rw [h3t]; exact offG.w (by unfold chS; omega)
        have m3 : MS t3 (td + 1) S := by
          obtain ⟨p1, p2, p3⟩ := m2
          rw [h3t]
          refine ⟨?_, ?_, fun i f hf => ?_⟩
          · rw [uI_same]; exact if_pos rfl
          · rw [uI_same]; exact (if_neg (by decide)).trans p2
          · rw [uI_ne _ _ _ _ (by decide), uI_ne _ _ _ _ (by decide), uI_ne _ _ _ _ (by decide)]; exact p3 i f hf
        have o03 : offS b s t3 := (offS_of r12).tr o3
        have L3 : (os ++ [((1 : Int32), (mTT tx n k).2.1, (0 : Int32), (0 : Int32), (0 : Int64))] ++ [((19 : Int32), (mTT tx n c1).2.1, (if (mTT tx n k).1 = 10 then -1 else nI (800 * b + ks.length)), (0 : Int32), (mTT tx n c1).2.2.1)]).length = os.length + 2 := by rw [List.length_append, L]; rfl
        obtain ⟨s4, e4, a4, r4, f4⟩ := m_orderName (d := D + 8) a3 (by rw [L]; omega) 19 (mTT tx n c1).2.1 (if (mTT tx n k).1 = 10 then -1 else nI (800 * b + ks.length)) (mTT tx n c1).2.2.1
        obtain ⟨s5, e5, a5, r5, f5⟩ := m_next (d := D + 7) a4 (by rw [h3]; decide)
        have n67 : nI td + (1 : Int32) = nI (td + 1) := by rw [show (1 : Int32) = nI 1 from rfl, nI_add]
        rw [if_neg (show ¬ nI td = 16 from fun e => h16 ((nI_eq (a := td) (b := 16) (by omega) (by omega)).mp e)), xg_97_67, m2.1, xg_97_67, m2.1, n67, xp_97_67, ← h3t, xg_97_4, a3.at.2.2.1, xg_97_7, a3.at.2.2.2.2 (Or.inr h3), xV_97, e4, bN_s, xV_97, e5, bN_s, xg_97_4, a5.at.2.2.1, xV_97]
        have r45 := r4.tr r5
        have kl : (ks ++ (if (mTT tx n k).1 = 10 then [] else [k])).length = ks.length + (if (mTT tx n k).1 = 10 then 0 else 1) := by
          rw [List.length_append]
          by_cases e : (mTT tx n k).1 = 10
          · rw [if_pos e, if_pos e]; rfl
          · rw [if_neg e, if_neg e]; rfl
        have kl4 : 4 * (ks ++ (if (mTT tx n k).1 = 10 then [] else [k])).length ≤ c1 + 2 := by
          rw [kl]
          by_cases e : (mTT tx n k).1 = 10
          · rw [if_pos e]; omega
          · rw [if_neg e]; have := hlen.2 e; omega
        have last : ∀ e x s6, MZ (mTT tx n) b s6 e x → x ≤ 4700 → offE b t3 s6 → gSt tx n b s (b_285_110 (mjF (D + 10)) 97 (nI td) (mTT tx n (c1 + 1)).2.1 (mjW0 s6)) o os ks S (.inl e) := by
          intro e x s6 z6 hx r6
          obtain ⟨s7, e7, z7, r7, f7⟩ := z_order (d := D + 9) z6 (by omega) 20 (mTT tx n (c1 + 1)).2.1 (nI td) 0
          refine ⟨s7, _, ?_, z7, by omega, o03.tr (offS_of (r6.tr r7))⟩
          unfold b_285_110
          rw [xg_97_61, if_neg z6.n0]
          unfold b_285_123
          rw [xV_97, e7, bN_s]
        by_cases h61 : (mTT tx n (c1 + 1)).1 = 61
        · simp only [if_pos h61]
          have hl2 : c1 + 1 < N := lt_N hN h0 (by omega) h61 (by decide)
          obtain ⟨s6, e6, a6, r6, f6⟩ := m_take (d := D + 6) a5 (c := 61) (by decide) h61
          have C := m_E (D := D) h0 hN (show B + 100 ≤ 1500 by omega) ho (show c1 + 1 + 1 ≤ N from hl2) (by rw [L3]; omega) (by omega) a6
          rw [e6, bN_s, xg_97_61, a6.2.1.2.1, if_pos rfl, xV_97]
          have r46 := r45.tr r6
          rw [kl, ← Nat.add_assoc] at C
          have bad : ∀ e, (∃ s' x, mjF (D + 10) 287 [.ref 97] (mjW0 s6) = some (none, mjW0 s') ∧ MZ (mTT tx n) b s' e x ∧ x ≤ 4700 ∧ offE b s6 s') → gSt tx n b s (bN (mjF (D + 10) 287 [.ref 97] (mjW0 s6)) (fun hp17 => b_285_110 (mjF (D + 10)) 97 (nI td) (mTT tx n (c1 + 1)).2.1 hp17)) o os ks S (.inl e) := by
            rintro e ⟨s7, x, e7, z7, hx, r7⟩
            rw [e7, bN_s]
            exact last e x s7 z7 hx (r46.tr r7)
          cases hv : prV (mTT tx n) (N + 1) o (c1 + 2) (800 * b + ks.length + (if (mTT tx n k).1 = 10 then 0 else 1)) with
          | inl e =>
            have C' := C
            rw [show c1 + 1 + 1 = c1 + 2 from rfl, hv] at C'
            exact bad e C'
          | inr y =>
            have C' := C
            rw [show c1 + 1 + 1 = c1 + 2 from rfl, hv] at C'
            obtain ⟨y1, y2, y3⟩ : lnZ (c1 + 2) 0 y := prE_len 100 0 _ _ _ y (by omega) hv
            have hyN := (prE_le hN h0 ho (show c1 + 2 ≤ N from hl2)).1 (by omega) hv
            by_cases hc : isCmp (mTT tx n y.1).1 = true
            · have n59 : ¬ (mTT tx n y.1).1 = 59 := fun e => by rw [e] at hc; exact absurd hc (by decide)
              simp only [if_neg n59]
              exact bad _ (C'.1 hc)
            · obtain ⟨s7, e7, a7, r7, f7⟩ := C'.2 hc
              have L7 : ∀ l : List Row, (os ++ [((1 : Int32), (mTT tx n k).2.1, (0 : Int32), (0 : Int32), (0 : Int64))] ++ [((19 : Int32), (mTT tx n c1).2.1, (if (mTT tx n k).1 = 10 then -1 else nI (800 * b + ks.length)), (0 : Int32), (mTT tx n c1).2.2.1)] ++ l).length = os.length + 2 + l.length := fun l => by rw [List.length_append, L3]
              by_cases h59 : (mTT tx n y.1).1 = 59
              · simp only [if_pos h59]
                obtain ⟨s8, e8, a8, r8, f8⟩ := m_take (d := D + 6) a7 (c := 59) (by decide) h59
                obtain ⟨s9, e9, a9, r9, f9⟩ := m_order (d := D + 9) a8 (by rw [L7]; omega) 20 (mTT tx n (c1 + 1)).2.1 (nI td) 0
                have rr := r46.tr (r7.tr (r8.tr r9))
                refine ⟨s9, [], ?_, ?_, m3.off rr, o03.tr (offS_of rr)⟩
                · rw [e7, bN_s]
                  unfold b_285_110
                  rw [xg_97_61, a7.2.1.2.1, if_pos rfl, xV_97, e8, bN_s]
                  unfold b_285_123
                  rw [xV_97, e9, bN_s]
                · rw [List.append_assoc, List.append_assoc, List.append_assoc, List.append_assoc] at a9
                  exact a9
              · simp only [if_neg h59]
                have e8 := m_takeB (d := D + 6) a7 (c := 59) (by decide) h59
                obtain ⟨s9, e9, z9, r9, f9⟩ := z_order (d := D + 9) (m_wz a7) (by rw [L7]; omega) 20 (mTT tx n (c1 + 1)).2.1 (nI td) 0
                refine ⟨s9, _, ?_, z9, by rw [L7]; omega, o03.tr (offS_of (r46.tr (r7.tr ((bS_off _ _).tr r9))))⟩
                rw [e7, bN_s]
                unfold b_285_110
                rw [xg_97_61, a7.2.1.2.1, if_pos rfl, xV_97, e8, bN_s]
                unfold b_285_123
                rw [xV_97, e9, bN_s]
        · simp only [if_neg h61]
          have e6 := m_takeB (d := D + 6) a5 (c := 61) (by decide) h61
          have z6 := m_wz a5
          rw [e6, bN_s, xg_97_61, if_neg z6.n0]
          exact last _ _ _ z6 (by rw [L3]; omega) (r45.tr (bS_off _ _))
    · simp only [if_neg h3]
      rw [if_neg (fun q => h3 (S3.mp q)), xV_97, m_wrong a2, bN_s]
      exact ⟨_, _, rfl, m_wz a2, by rw [L]; omega, offS_of (r12.tr (bS_off _ _))⟩
end MJ87
end
section
/-! ===== the reference: an E; or an E = E; ===== -/
theorem snoc_of : ∀ (l : List Row), l ≠ [] → ∃ q r, l = q ++ [r]
  | [], h => absurd rfl h
  | [a], _ => ⟨[], a, rfl⟩
  | a :: b :: t, _ => by
    obtain ⟨q, r, e⟩ := snoc_of (b :: t) (List.cons_ne_nil _ _)
    exact ⟨a :: q, r, by rw [e]; rfl⟩
theorem set_end : ∀ (A : List Row) (r x : Row), (A ++ [r]).set A.length x = A ++ [x]
  | [], _, _ => rfl
  | a :: t, r, x => by
    show a :: ((t ++ [r]).set t.length x) = _
    rw [set_end t r x]; rfl
theorem get_end : ∀ (A : List Row) (r : Row), (A ++ [r])[A.length]? = some r
  | [], _ => rfl
  | a :: t, r => by
    show (t ++ [r])[t.length]? = _
    exact get_end t r
theorem oLast_end (q : List Row) (r : Row) : oLast (q ++ [r]) = r := by
  unfold oLast
  simp
theorem oLeft_end (sh : Int32) (q : List Row) (r : Row) : oLeft sh (q ++ [r]) = q ++ [(if sh = 1 then 15 else 16, r.2)] := by
  unfold oLeft
  rw [oLast_end]
  simp
section MJ88
variable {tx : Nat → Int32} {n b D k o td N B : Nat} {s : mjSt3} {W : List WF} {os : List Row} {ks : List Nat} {S : List SF}
theorem u_65 {w : Int32} {i : Int32} (h : MR tx n b s k o W os ks) : b_298_65 (mjF D) 97 w i (mjW0 s) = b_298_88 (mjF D) 97 w i (mTT tx n k).2.1 143 i (if w = 1 then 15 else 16) (mjW0 s) := by
  unfold b_298_65
  rw [xg_97_4, h.at.2.2.1, xg_97_54]
  by_cases e : w = 1
  · rw [if_pos e, if_pos e]
  · rw [if_neg e, if_neg e]
theorem u_131 {w p q x : Int32} {hp : mjH} : b_298_131 (mjF D) 97 w p q x hp = b_298_144 (mjF D) p q x 97 (if w = 1 then 17 else 18) hp := by
  unfold b_298_131
  by_cases e : w = 1
  · rw [if_pos e, if_pos e]
  · rw [if_neg e, if_neg e]
/-- readUse -/
theorem m_use (h0 : (mTT tx n N).1 = 0) (hN : N ≤ 3000) (hB : B ≤ 1400) (ho : o ≤ 12) (hk : k ≤ N) (hos : os.length ≤ B + k) (hks : 4 * ks.length ≤ k) (h : MR tx n b s k o W os ks) (m : MS s td S) : gSt tx n b s (mjF (D + 11) 298 [.ref 97, .int (mTT tx n k).2.1] (mjW0 s)) o os ks S (pUse (mTT tx n) (N + 1) o k td (800 * b + ks.length) os.length) := by
  have hb := h.2.1.1
  obtain ⟨s1, e1, a1, r1, f1⟩ := m_order (d := D + 9) h (by omega) 1 (mTT tx n k).2.1 0 0
  have L : (os ++ [((1 : Int32), (mTT tx n k).2.1, (0 : Int32), (0 : Int32), (0 : Int64))]).length = os.length + 1 := by rw [List.length_append]; rfl
  have C := m_E (D := D) h0 hN (show B + 100 ≤ 1500 by omega) ho hk (by rw [L]; omega) hks a1
  rw [e_298]
  unfold f_298 b_298_0
  rw [xV_97, e1, bN_s, xV_97]
  unfold pUse
  cases hd : prV (mTT tx n) (N + 1) o k (800 * b + ks.length) with
  | inl e =>
    rw [hd] at C
    obtain ⟨s2, x, e2, z2, hx, r2⟩ := C
    refine ⟨s2, x, ?_, z2, by omega, offS_of (r1.tr r2)⟩
    rw [e2, bN_s, xg_97_61, if_neg z2.pos]
  | inr y =>
    rw [hd] at C
    obtain ⟨y1, y2, y3⟩ : lnZ k 0 y := prE_len 100 0 _ _ _ y (by omega) hd
    have hyN := (prE_le hN h0 ho hk).1 (by omega) hd
    by_cases hc : isCmp (mTT tx n y.1).1 = true
    · have n59 : ¬ (mTT tx n y.1).1 = 59 := fun e => by rw [e] at hc; exact absurd hc (by decide)
      have n61 : ¬ (mTT tx n y.1).1 = 61 := fun e => by rw [e] at hc; exact absurd hc (by decide)
      simp only [if_neg (show ¬ ((mTT tx n y.1).1 = 61 ∧ (y.2.1 = 1 ∨ y.2.1 = 2)) from fun q => n61 q.1), if_neg (show ¬ ((mTT tx n y.1).1 = 59 ∧ y.2.1 = 3) from fun q => n59 q.1)]
      obtain ⟨s2, x, e2, z2, hx, r2⟩ := C.1 hc
      refine ⟨s2, x, ?_, z2, by omega, offS_of (r1.tr r2)⟩
      rw [e2, bN_s, xg_97_61, if_neg z2.pos]
    · obtain ⟨s2, e2, a2, r2, f2⟩ := C.2 hc
      have r12 := r1.tr r2
      have m2 := m.off r12
      obtain ⟨q, r, hq⟩ := snoc_of _ (prE_ne 100 0 _ _ _ y (by omega) hd)
      have ql : y.2.2.2.1.length = q.length + 1 := by rw [hq, List.length_append]; rfl
      obtain ⟨A, hA⟩ : ∃ A, A = os ++ [((1 : Int32), (mTT tx n k).2.1, (0 : Int32), (0 : Int32), (0 : Int64))] ++ q := ⟨_, rfl⟩
      have AL : A.length = os.length + 1 + q.length := by rw [hA, List.length_append, L]
      have a2' : MR tx n b s2 y.1 o [] (A ++ [r]) (ks ++ y.2.2.1) := by
        rw [hA, List.append_assoc, ← hq]; exact a2
      have AL1 : (A ++ [r]).length = A.length + 1 := by rw [List.length_append]; rfl
      have ix : (5000 : Int32) * nI b + nI (A ++ [r]).length - 1 = nI (5000 * b + A.length) := by
        rw [AL1, idx5 hb, ← Nat.add_assoc, nI_pred]
      rw [e2, bN_s, xg_97_61, a2'.2.1.2.1, if_pos (show (0 : Int32) ≤ 0 by decide), xg_97_77, f2, xg_97_63, a2'.2.1.2.2.1, xg_97_33, xg_97_63, a2'.2.1.2.2.1, xa_122, if_pos (mj_in_nI (by omega) (by decide)), nI_clamp (by omega), a2'.2.2.2.1.1, ix, xV_97, v_sign a2'.at (c := 61) (by decide), bI_s, i01]
      by_cases hL : (mTT tx n y.1).1 = 61 ∧ (y.2.1 = 1 ∨ y.2.1 = 2)
      · simp only [if_pos hL]
        have two : (if y.2.1 = 1 then b_298_65 (mjF (D + 10)) 97 y.2.1 (nI (5000 * b + A.length)) (mjW0 s2) else if y.2.1 = 2 then b_298_65 (mjF (D + 10)) 97 y.2.1 (nI (5000 * b + A.length)) (mjW0 s2) else b_298_156 (mjF (D + 10)) 97 (mTT tx n k).2.1 y.2.1 (mjW0 s2)) = b_298_65 (mjF (D + 10)) 97 y.2.1 (nI (5000 * b + A.length)) (mjW0 s2) := by
          by_cases e : y.2.1 = 1
          · rw [if_pos e]
          · rw [if_neg e, if_pos (hL.2.resolve_left e)]
        have hl1 : y.1 < N := lt_N hN h0 hyN hL.1 (by decide)
        rw [if_pos hL.1, two, u_65 a2']
        have aS := a2'.setR (x := 143) (v := if y.2.1 = 1 then 15 else 16) (r' := (if y.2.1 = 1 then 15 else 16, r.2)) (get_end A r) (Or.inl ⟨rfl, rfl⟩)
        have oS : offE b s2 (uI s2 143 (upd (s2.1 143) (5000 * b + A.length) (if y.2.1 = 1 then 15 else 16))) := setR_off (by omega) (by omega)
        rw [set_end] at aS
        obtain ⟨t3, h3⟩ : ∃ t, t = uI s2 143 (upd (s2.1 143) (5000 * b + A.length) (if y.2.1 = 1 then 15 else 16)) := ⟨_, rfl⟩
        rw [← h3] at aS oS
        have AL2 : (A ++ [((if y.2.1 = 1 then 15 else 16 : Int32), r.2)]).length = A.length + 1 := by rw [List.length_append]; rfl
        obtain ⟨s4, e4, a4, r4, f4⟩ := m_next (d := D + 7) aS (by rw [hL.1]; decide)
        have rw3 := (aS.2.2.2.1.2 A.length _ (get_end A _)).2.1
        have C2 := m_E (D := D) h0 hN (show B + 100 ≤ 1500 by omega) ho (show y.1 + 1 ≤ N from hl1) (by rw [AL2]; omega) (by rw [List.length_append]; omega) a4
        have pre : b_298_88 (mjF (D + 10)) 97 y.2.1 (nI (5000 * b + A.length)) (mTT tx n y.1).2.1 143 (nI (5000 * b + A.length)) (if y.2.1 = 1 then 15 else 16) (mjW0 s2) = bN (mjF (D + 10) 287 [.ref 97] (mjW0 s4)) (fun hp8 => gI hp8 97 12 61 (fun v9 => (if v9 = 0 then rV hp8 97 12 (bN (mjF (D + 10) 270 [.ref 97, .int (59 : Int32)] hp8) (fun hp10 => b_298_131 (mjF (D + 10)) 97 y.2.1 (mTT tx n y.1).2.1 r.2.1 (nI A.length) hp10)) else b_298_131 (mjF (D + 10)) 97 y.2.1 (mTT tx n y.1).2.1 r.2.1 (nI A.length) hp8))) := by
          unfold b_298_88
          rw [xs_143, if_pos (mj_in_nI (by omega) (by decide)), nI_clamp (by omega), ← h3, xg_97_55, xa_144, if_pos (mj_in_nI (by omega) (by decide)), nI_clamp (by omega), rw3, xg_97_33, xg_97_63, aS.2.1.2.2.1, xa_122, if_pos (mj_in_nI (by omega) (by decide)), nI_clamp (by omega), aS.2.2.2.1.1, AL2, nI_pred, xV_97, e4, bN_s, xV_97]
        rw [pre]
        rw [List.length_append, ← Nat.add_assoc] at C2
        have r14 := r12.tr (oS.tr r4)
        have last : ∀ e x s6, MZ (mTT tx n) b s6 e x → x ≤ 4700 → offE b s s6 → gSt tx n b s (b_298_131 (mjF (D + 10)) 97 y.2.1 (mTT tx n y.1).2.1 r.2.1 (nI A.length) (mjW0 s6)) o os ks S (.inl e) := by
          intro e x s6 z6 hx r6
          obtain ⟨s7, e7, z7, r7, f7⟩ := z_order (d := D + 9) z6 (by omega) (if y.2.1 = 1 then 17 else 18) (mTT tx n y.1).2.1 (nI A.length) r.2.1
          refine ⟨s7, _, ?_, z7, by omega, offS_of (r6.tr r7)⟩
          rw [u_131]
          unfold b_298_144
          rw [xV_97, e7, bN_s]
        have bad : ∀ e, (∃ s' x, mjF (D + 10) 287 [.ref 97] (mjW0 s4) = some (none, mjW0 s') ∧ MZ (mTT tx n) b s' e x ∧ x ≤ 4700 ∧ offE b s4 s') → gSt tx n b s (bN (mjF (D + 10) 287 [.ref 97] (mjW0 s4)) (fun hp8 => gI hp8 97 12 61 (fun v9 => (if v9 = 0 then rV hp8 97 12 (bN (mjF (D + 10) 270 [.ref 97, .int (59 : Int32)] hp8) (fun hp10 => b_298_131 (mjF (D + 10)) 97 y.2.1 (mTT tx n y.1).2.1 r.2.1 (nI A.length) hp10)) else b_298_131 (mjF (D + 10)) 97 y.2.1 (mTT tx n y.1).2.1 r.2.1 (nI A.length) hp8)))) o os ks S (.inl e) := by
          rintro e ⟨s7, x, e7, z7, hx, r7⟩
          rw [e7, bN_s, xg_97_61, if_neg z7.n0]
          exact last e x s7 z7 hx (r14.tr r7)
        cases hv : prV (mTT tx n) (N + 1) o (y.1 + 1) (800 * b + ks.length + y.2.2.1.length) with
        | inl e =>
          rw [hv] at C2
          exact bad e C2
        | inr z =>
          rw [hv] at C2
          obtain ⟨z1, z2, z3⟩ : lnZ (y.1 + 1) 0 z := prE_len 100 0 _ _ _ z (by omega) hv
          have hzN := (prE_le hN h0 ho (show y.1 + 1 ≤ N from hl1)).1 (by omega) hv
          by_cases hc2 : isCmp (mTT tx n z.1).1 = true
          · have n59 : ¬ (mTT tx n z.1).1 = 59 := fun e => by rw [e] at hc2; exact absurd hc2 (by decide)
            simp only [if_neg n59]
            exact bad _ (C2.1 hc2)
          · obtain ⟨s7, e7, a7, r7, f7⟩ := C2.2 hc2
            have L7 : (A ++ [((if y.2.1 = 1 then 15 else 16 : Int32), r.2)] ++ z.2.2.2.1).length = A.length + 1 + z.2.2.2.1.length := by rw [List.length_append, AL2]
            by_cases h59 : (mTT tx n z.1).1 = 59
            · simp only [if_pos h59]
              obtain ⟨s8, e8, a8, r8, f8⟩ := m_take (d := D + 6) a7 (c := 59) (by decide) h59
              obtain ⟨s9, e9, a9, r9, f9⟩ := m_order (d := D + 9) a8 (by rw [L7]; omega) (if y.2.1 = 1 then 17 else 18) (mTT tx n y.1).2.1 (nI A.length) r.2.1
              have rr := r14.tr (r7.tr (r8.tr r9))
              refine ⟨s9, [], ?_, ?_, m.off rr, offS_of rr⟩
              · rw [e7, bN_s, xg_97_61, a7.2.1.2.1, if_pos rfl, xV_97, e8, bN_s, u_131]
                unfold b_298_144
                rw [xV_97, e9, bN_s]
              · show MR tx n b s9 (z.1 + 1) o [] (os ++ (oLine (mTT tx n) k :: (oLeft y.2.1 y.2.2.2.1 ++ z.2.2.2.1 ++ [(if y.2.1 = 1 then 17 else 18, (mTT tx n y.1).2.1, nI (os.length + y.2.2.2.1.length), (oLast y.2.2.2.1).2.1, 0)]))) (ks ++ (y.2.2.1 ++ z.2.2.1))
                rw [hq, oLeft_end, oLast_end, ← hq, ql, show os.length + (q.length + 1) = A.length by omega]
                have e1 : os ++ (oLine (mTT tx n) k :: (q ++ [(if y.2.1 = 1 then 15 else 16, r.2)] ++ z.2.2.2.1 ++ [((if y.2.1 = 1 then 17 else 18 : Int32), (mTT tx n y.1).2.1, nI A.length, r.2.1, (0 : Int64))])) = A ++ [((if y.2.1 = 1 then 15 else 16 : Int32), r.2)] ++ z.2.2.2.1 ++ [((if y.2.1 = 1 then 17 else 18 : Int32), (mTT tx n y.1).2.1, nI A.length, r.2.1, (0 : Int64))] := by
                  generalize nI A.length = g
                  rw [hA]
                  simp [oLine]
                rw [e1, ← List.append_assoc]
                exact a9
            · simp only [if_neg h59]
              have e8 := m_takeB (d := D + 6) a7 (c := 59) (by decide) h59
              obtain ⟨s9, e9, z9, r9, f9⟩ := z_order (d := D + 9) (m_wz a7) (by rw [L7]; omega) (if y.2.1 = 1 then 17 else 18) (mTT tx n y.1).2.1 (nI A.length) r.2.1
              refine ⟨s9, _, ?_, z9, by rw [L7]; omega, offS_of (r14.tr (r7.tr ((bS_off _ _).tr r9)))⟩
              rw [e7, bN_s, xg_97_61, a7.2.1.2.1, if_pos rfl, xV_97, e8, bN_s, u_131]
              unfold b_298_144
              rw [xV_97, e9, bN_s]
      · simp only [if_neg hL]
        have two : (if (mTT tx n y.1).1 = 61 then (if y.2.1 = 1 then b_298_65 (mjF (D + 10)) 97 y.2.1 (nI (5000 * b + A.length)) (mjW0 s2) else if y.2.1 = 2 then b_298_65 (mjF (D + 10)) 97 y.2.1 (nI (5000 * b + A.length)) (mjW0 s2) else b_298_156 (mjF (D + 10)) 97 (mTT tx n k).2.1 y.2.1 (mjW0 s2)) else b_298_156 (mjF (D + 10)) 97 (mTT tx n k).2.1 y.2.1 (mjW0 s2)) = b_298_156 (mjF (D + 10)) 97 (mTT tx n k).2.1 y.2.1 (mjW0 s2) := by
          by_cases e : (mTT tx n y.1).1 = 61
          · rw [if_pos e, if_neg (fun q => hL ⟨e, Or.inl q⟩), if_neg (fun q => hL ⟨e, Or.inr q⟩)]
          · rw [if_neg e]
        rw [two]
        unfold b_298_156
        rw [xV_97, v_sign a2'.at (c := 59) (by decide), bI_s, i01]
        by_cases hR : (mTT tx n y.1).1 = 59 ∧ y.2.1 = 3
        · simp only [if_pos hR]
          obtain ⟨s8, e8, a8, r8, f8⟩ := m_next (d := D + 7) a2 (by rw [hR.1]; decide)
          obtain ⟨s9, e9, a9, r9, f9⟩ := m_order (d := D + 9) a8 (by rw [List.length_append, L]; omega) 25 (mTT tx n k).2.1 0 0
          have rr := r12.tr (r8.tr r9)
          refine ⟨s9, [], ?_, ?_, m.off rr, offS_of rr⟩
          · rw [if_pos hR.1, if_pos hR.2, xV_97, e8, bN_s, xV_97, e9, bN_s]
          · rw [List.append_assoc, List.append_assoc] at a9
            exact a9
        · simp only [if_neg hR]
          have two : (if (mTT tx n y.1).1 = 59 then (if y.2.1 = 3 then rV (mjW0 s2) 97 12 (bN (mjF (D + 10) 262 [.ref 97] (mjW0 s2)) (fun hp3 => rV hp3 97 12 (bN (mjF (D + 10) 281 [.ref 97, .int (25 : Int32), .int (mTT tx n k).2.1, .int (0 : Int32), .int (0 : Int32)] hp3) (fun hp4 => some (none, hp4))))) else b_298_186 (mjF (D + 10)) 97 (mjW0 s2)) else b_298_186 (mjF (D + 10)) 97 (mjW0 s2)) = b_298_186 (mjF (D + 10)) 97 (mjW0 s2) := by
            by_cases e : (mTT tx n y.1).1 = 59
            · rw [if_pos e, if_neg (fun q => hR ⟨e, q⟩)]
            · rw [if_neg e]
          rw [two]
          unfold b_298_186
          rw [xV_97, m_wrong a2, bN_s]
          exact ⟨_, _, rfl, m_wz a2, by rw [List.length_append, L]; omega, offS_of (r12.tr (bS_off _ _))⟩
end MJ88
end
