/-! ===== the reference: the end of a call, '.', as, the end of an E ===== -/
section MJ77
variable {tx : Nat → Int32} {n b D k o q l m : Nat} {s s' : mjSt3} {W : List WF} {f : WF} {os : List Row} {ks : List Nat}
theorem m_endCall {a mn : Nat} {pl x : Int32} {nm : Int64} (h : MR tx n b s k o (W ++ [(4, nI a, pl, nI mn, x)]) os ks) (hl : W.length < 64) (ho : os.length < 4990) (ha : os[a]? = some (11, pl, 0, 0, nm)) : ∃ s', mjF (D + 3) 293 [.ref 97, .int (nI W.length)] (mjW0 s) = some (none, mjW0 s') ∧ MR tx n b s' k o W (os.set a (11, pl, 0, nI mn, nm) ++ [(13, pl, nI mn, 0, nm)]) ks ∧ offE b s s' ∧ s'.1 97 77 = 3 := by
  have t := h.top
  have hb := h.2.1.1
  have al := (List.getElem?_eq_some_iff.mp ha).1
  have a1 := h.pop
  have a2 := a1.setR (x := 146) (v := nI mn) ha (Or.inr (Or.inr (Or.inr ⟨rfl, rfl⟩)))
  rw [show (((11 : Int32), pl, (0 : Int32), (0 : Int32), nm) : Row).1 = 11 from rfl] at a2
  obtain ⟨s3, e3, a3, r3, f3⟩ := m_orderName (d := D) a2 (by rw [List.length_set]; exact ho) 13 pl (nI mn) nm
  have a4 := a3.w97 (j := 77) (v := 3) (by omega)
  have e63 : (uI s 97 (upd (s.1 97) 76 (nI W.length))).1 97 63 = nI b := a1.2.1.2.2.1
  have rN : s.2.1 147 (5000 * b + a) = nm := (h.2.2.2.1.2 a _ ha).2.2.2.2
  refine ⟨_, ?_, a4, (w97_off (by omega)).tr ((setR_off (by omega) (by omega)).tr (r3.tr (w97_off (by omega)))), ?_⟩
  · rw [e_293]
    unfold f_293 b_293_0
    rw [xp_97_76, xg_97_57, xg_97_63, e63, xg_97_73, xa_152, if_pos (mj_in_nI hl (by decide)), nI_clamp (by omega), uI_ne _ _ _ _ (show ¬ 152 = 97 by decide), t.1.2.1, xg_97_75, xa_154, if_pos (mj_in_nI hl (by decide)), nI_clamp (by omega), uI_ne _ _ _ _ (show ¬ 154 = 97 by decide), t.1.2.2.2.1]
    rw [show ((4 : Int32), nI a, pl, nI mn, x).2.1 = nI a from rfl, show ((4 : Int32), nI a, pl, nI mn, x).2.2.2.1 = nI mn from rfl, idx5 hb, xs_146, if_pos (mj_in_nI (by omega) (by decide)), nI_clamp (by omega), xg_97_74, xa_153, if_pos (mj_in_nI hl (by decide)), nI_clamp (by omega), uI_ne _ _ _ _ (show ¬ 153 = 146 by decide), uI_ne _ _ _ _ (show ¬ 153 = 97 by decide), t.1.2.2.1, xg_97_58, xg_97_63, uI_ne _ _ _ _ (show ¬ 97 = 146 by decide), e63, xg_97_73, xa_152, if_pos (mj_in_nI hl (by decide)), nI_clamp (by omega), uI_ne _ _ _ _ (show ¬ 152 = 146 by decide), uI_ne _ _ _ _ (show ¬ 152 = 97 by decide), t.1.2.1, show ((4 : Int32), nI a, pl, nI mn, x).2.1 = nI a from rfl, idx5 hb, xa_147, if_pos (mj_in_nI (by omega) (by decide)), nI_clamp (by omega), uI_l, uI_l, rN, xg_97_75, xa_154, if_pos (mj_in_nI hl (by decide)), nI_clamp (by omega), uI_ne _ _ _ _ (show ¬ 154 = 146 by decide), uI_ne _ _ _ _ (show ¬ 154 = 97 by decide), t.1.2.2.2.1, show ((4 : Int32), nI a, pl, nI mn, x).2.2.2.1 = nI mn from rfl, show ((4 : Int32), nI a, pl, nI mn, x).2.2.1 = pl from rfl, xV_97, e3, bN_s, xp_97_77]
  · rw [uI_same, up_same]
/-- as KIND -/
theorem p_as (h : MR tx n b s k o (W ++ [f]) os ks) (hl : W.length < 64) (ho : os.length < 4990) (hk : ks.length < 790) (e : (mTT tx n k).1 = 20) : match pKind (mTT tx n) (k + 1) with
    | .inl x => ∃ s', (∀ m, lE (D + 8) (m + 2) 0 s = some (none, mjW0 s')) ∧ MZ (mTT tx n) b s' x (os.length + 1) ∧ offE b s s'
    | .inr c' => ∃ s', step1 (D + 8) 0 s 0 s' ∧ MR tx n b s' c' o (W ++ [f]) (os ++ [(14, (mTT tx n k).2.1, nI (800 * b + ks.length), 0, 0)]) (ks ++ [k + 1]) ∧ offE b s s' ∧ s'.1 97 77 = 0 := by
  have A := h.at
  have w16 : mjF (D + 8) 266 [.ref 97, .int 16] (mjW0 s) = _ := v_word (d := D + 7) A (w := 15) (by decide)
  obtain ⟨s2, e2, a2, r2, f2⟩ := m_next (d := D + 5) h (by rw [e]; decide)
  have pre : ∀ m, lE (D + 8) (m + 1) 0 s = bI (rV (mjW0 s2) 97 12 (bI (mjF (D + 8) 272 [.ref 97] (mjW0 s2)) (fun v7 hp8 => rV hp8 97 12 (bN (mjF (D + 8) 281 [.ref 97, .int 14, .int (mTT tx n k).2.1, .int v7, .int 0] hp8) (fun hp9 => pI hp9 97 12 77 0 (fun hp10 => some (some (.int 0), hp10))))))) (fun v hp => L_287_18 (mjF (D + 9)) m 97 v hp) := by
    intro m
    rw [lE_0 h hl, e_291]
    unfold f_291 b_291_0
    rw [xV_97, v_sign A (by decide), bI_s, i01, if_neg (by rw [e]; decide), xV_97, w16, bI_s, i01, if_pos (show (mTT tx n k).1 = nI (15 + 5) from e), xg_97_4, A.2.2.1, xV_97, e2, bN_s]
  have kd := m_kind (d := D + 2) a2 hk
  cases hd : pKind (mTT tx n) (k + 1) with
  | inl x =>
    rw [hd] at kd
    obtain ⟨s3, v, e3, z3, r3⟩ := kd
    obtain ⟨s4, e4, z4, r4, f4⟩ := z_order (d := D + 7) z3 (by omega) 14 (mTT tx n k).2.1 v 0
    have z5 := z4.w (j := 77) (v := 0) (by omega)
    refine ⟨_, fun m => ?_, z5, r2.tr (r3.1.tr (r4.tr (w97_off (by omega))))⟩
    rw [pre, xV_97, e3, bI_s, xV_97, e4, bN_s, xp_97_77, bI_s]
    exact lE_z z5 0
  | inr c' =>
    rw [hd] at kd
    obtain ⟨s3, e3, a3, r3, f3⟩ := kd
    obtain ⟨s4, e4, a4, r4, f4⟩ := m_order (d := D + 7) a3 ho 14 (mTT tx n k).2.1 (nI (800 * b + ks.length)) 0
    have a5 := a4.w97 (j := 77) (v := 0) (by omega)
    refine ⟨_, fun m => ?_, a5, r2.tr (r3.tr (r4.tr (w97_off (by omega)))), ?_⟩
    · rw [pre, xV_97, e3, bI_s, xV_97, e4, bN_s, xp_97_77, bI_s]
      rfl
    · rw [uI_same, up_same]
/-- readDot's beginning -/
theorem p_dot (h : MR tx n b s k o (W ++ [f]) os ks) (hl : W.length < 62) (ho : os.length < 4980) (e : (mTT tx n k).1 = 46) :
    (¬ (mTT tx n (k + 1)).1 = 3 → ∃ s', (∀ m, lE (D + 8) (m + 2) 0 s = some (none, mjW0 s')) ∧ MZ (mTT tx n) b s' (F2 (mTT tx n) (k + 1)) os.length ∧ offE b s s') ∧
    ((mTT tx n (k + 1)).1 = 3 → ¬ (mTT tx n (k + 2)).1 = 40 → ∃ s', step1 (D + 8) 0 s 0 s' ∧ MR tx n b s' (k + 2) o (W ++ [f]) (os ++ [(10, (mTT tx n (k + 1)).2.1, 0, 0, (mTT tx n (k + 1)).2.2.1)]) ks ∧ offE b s s' ∧ s'.1 97 77 = 2) ∧
    ((mTT tx n (k + 1)).1 = 3 → (mTT tx n (k + 2)).1 = 40 → (o = 12 → ∃ s', (∀ m, lE (D + 8) (m + 2) 0 s = some (none, mjW0 s')) ∧ MZ (mTT tx n) b s' (3, k + 2) (os.length + 1) ∧ offE b s s') ∧
      (o < 12 → (mTT tx n (k + 3)).1 = 41 → ∃ s', step1 (D + 8) 0 s 0 s' ∧ MR tx n b s' (k + 4) o (W ++ [f]) (os ++ [(11, (mTT tx n (k + 1)).2.1, 0, 0, (mTT tx n (k + 1)).2.2.1), (13, (mTT tx n (k + 1)).2.1, 0, 0, (mTT tx n (k + 1)).2.2.1)]) ks ∧ offE b s s' ∧ s'.1 97 77 = 3) ∧
      (o < 12 → ¬ (mTT tx n (k + 3)).1 = 41 → isVal (mTT tx n (k + 3)).1 = true → ∃ s', step1 (D + 8) 0 s 1 s' ∧ MR tx n b s' (k + 3) (o + 1) (W ++ [f] ++ [(4, nI os.length, (mTT tx n (k + 1)).2.1, nI 1, (mTT tx n (k + 3)).2.1)]) (os ++ [(11, (mTT tx n (k + 1)).2.1, 0, 0, (mTT tx n (k + 1)).2.2.1)]) ks ∧ offE b s s') ∧
      (o < 12 → ¬ (mTT tx n (k + 3)).1 = 41 → isVal (mTT tx n (k + 3)).1 = false → ∃ s', (∀ m, lE (D + 8) (m + 2) 0 s = some (none, mjW0 s')) ∧ MZ (mTT tx n) b s' (F2 (mTT tx n) (k + 3)) (os.length + 1) ∧ offE b s s')) := by
  have A := h.at
  obtain ⟨s1, e1, a1, r1, f1⟩ := m_next (d := D + 4) h (by rw [e]; decide)
  have A1 := a1.at
  have S1 := v_srt A1
  have pre : ∀ m, lE (D + 8) (m + 1) 0 s = bI (bI (mjF (D + 8) 292 [.ref 97] (mjW0 s)) (fun v11 hp12 => (if narrow .boolean (.int v11) = .int v11 then some (some (.int v11), hp12) else none))) (fun v hp => L_287_18 (mjF (D + 9)) m 97 v hp) := by
    intro m
    rw [lE_0 h (by omega), e_291]
    unfold f_291 b_291_0
    rw [xV_97, v_sign A (by decide), bI_s, i01, if_pos e, xV_97]
  have c0 : ∀ (u : mjU) (s' : mjSt3) (m : Nat), mjF (D + 8) 292 [.ref 97] (mjW0 s) = some (some (.int 0), mjW0 s') → lE (D + 8) (m + 1) 0 s = lE (D + 8) m 0 s' := by
    intro u s' m q
    rw [pre, q, bI_s, if_pos nz0, bI_s]
    rfl
  have c1 : ∀ (s' : mjSt3) (m : Nat), mjF (D + 8) 292 [.ref 97] (mjW0 s) = some (some (.int 1), mjW0 s') → lE (D + 8) (m + 1) 0 s = lE (D + 8) m 1 s' := by
    intro s' m q
    rw [pre, q, bI_s, if_pos nz1, bI_s]
    rfl
  refine ⟨fun h3 => ?_, fun h3 h40 => ?_, fun h3 h40 => ?_⟩
  · have z := m_wz a1
    refine ⟨_, fun m => ?_, z, r1.tr (bS_off _ _)⟩
    rw [c0 none (bS s1 (nI (F2 (mTT tx n) (k + 1)).1) ((mTT tx n) (F2 (mTT tx n) (k + 1)).2).2.1) (m + 1)]
    · exact lE_z z 0
    · rw [e_292]
      unfold f_292 b_292_0
      rw [xV_97, e1, bN_s, xg_97_3, if_neg (fun q => h3 (S1.2.1.mp q)), xV_97, m_wrong a1, bN_s]
  · obtain ⟨s2, e2, a2, r2, f2⟩ := m_next (d := D + 4) a1 (by rw [h3]; decide)
    obtain ⟨s3, e3, a3, r3, f3⟩ := m_orderName (d := D + 5) a2 (by omega) 10 (mTT tx n (k + 1)).2.1 0 (mTT tx n (k + 1)).2.2.1
    have a4 := a3.w97 (j := 77) (v := 2) (by omega)
    refine ⟨_, fun m => c0 none _ m ?_, a4, r1.tr (r2.tr (r3.tr (w97_off (by omega)))), by rw [uI_same, up_same]⟩
    rw [e_292]
    unfold f_292 b_292_0
    rw [xV_97, e1, bN_s, xg_97_3, if_pos (S1.2.1.mpr h3), xg_97_4, A1.2.2.1, xg_97_7, A1.2.2.2.2 (Or.inr h3), xV_97, e2, bN_s, xV_97, v_sign a2.at (by decide), bI_s, i01, if_neg h40, xV_97, e3, bN_s, xp_97_77]
  · obtain ⟨s2, e2, a2, r2, f2⟩ := m_next (d := D + 4) a1 (by rw [h3]; decide)
    obtain ⟨s3, e3, a3, r3, f3⟩ := m_orderName (d := D + 5) a2 (by omega) 11 (mTT tx n (k + 1)).2.1 0 (mTT tx n (k + 1)).2.2.1
    have hb := h.2.1.1
    have l3 : (os ++ [((11 : Int32), (mTT tx n (k + 1)).2.1, (0 : Int32), (0 : Int32), (mTT tx n (k + 1)).2.2.1)]).length = os.length + 1 := by rw [List.length_append]; rfl
    have o3 : s3.1 122 b = nI (os.length + 1) := by rw [a3.2.2.2.1.1, l3]
    have hW : (W ++ [f]).length < 64 := by rw [List.length_append]; show W.length + 1 < 64; omega
    have lW : (W ++ [f]).length = W.length + 1 := by rw [List.length_append]; rfl
    obtain ⟨s4, x, e4, a4, r4, f4⟩ := m_waits (d := D + 6) a3 hW 4 (nI os.length) (mTT tx n (k + 1)).2.1 0
    have pre2 : mjF (D + 8) 292 [.ref 97] (mjW0 s) = (rV (mjW0 s4) 97 12 (bN (mjF (D + 7) 274 [.ref 97, .int 40] (mjW0 s4)) (fun  hp13 => gI hp13 97 12 61 (fun v14 => (if v14 ≤ 0 then rV hp13 97 12 (bI (mjF (D + 7) 271 [.ref 97, .int 41] hp13) (fun v15 hp16 => (if v15 = 0 then gI hp16 97 12 76 (fun v17 => rV hp16 97 12 (bI (mjF (D + 7) 294 [.ref 97, .int (v17 - 1)] hp16) (fun v18 hp19 => (if narrow .boolean (.int v18) = .int v18 then some (some (.int v18), hp19) else none)))) else rV hp16 97 12 (bN (mjF (D + 7) 278 [.ref 97, .int 41] hp16) (fun  hp20 => gI hp20 97 12 76 (fun v21 => rV hp20 97 12 (bN (mjF (D + 7) 293 [.ref 97, .int (v21 - 1)] hp20) (fun  hp22 => some (some (.int 0), hp22))))))))) else some (some (.int 0), hp13)))))) := by
      rw [e_292]
      unfold f_292 b_292_0
      rw [xV_97, e1, bN_s, xg_97_3, if_pos (S1.2.1.mpr h3), xg_97_4, A1.2.2.1, xg_97_7, A1.2.2.2.2 (Or.inr h3), xV_97, e2, bN_s, xV_97, v_sign a2.at (by decide), bI_s, i01, if_pos h40, xV_97, e3, bN_s, xg_97_33, xg_97_63, a3.2.1.2.2.1, xa_122, if_pos (mj_in_nI (by omega) (by decide)), nI_clamp (by omega), o3, pk1, xV_97, e4, bN_s]
    refine ⟨fun o12 => ?_, fun o12 h41 => ?_, fun o12 h41 hv => ?_, fun o12 h41 hv => ?_⟩
    · subst o12
      obtain ⟨s5, e5, z5, r5⟩ := m_opens3 (d := D + 3) a4 (c := 40) (by decide) h40
      rw [l3] at z5
      refine ⟨s5, fun m => ?_, z5, r1.tr (r2.tr (r3.tr (r4.tr r5)))⟩
      rw [c0 none s5 (m + 1)]
      · exact lE_z z5 0
      · rw [pre2, xV_97, e5, bN_s, xg_97_61, if_neg z5.pos]
    · obtain ⟨s5, e5, a5, r5, f5⟩ := m_opens (d := D + 3) a4 (c := 40) (by decide) h40 o12
      obtain ⟨s6, e6, a6, r6, f6⟩ := m_closes (d := D + 3) a5 (c := 41) (by decide) h41
      have a6' : MR tx n b s6 (k + 4) o (W ++ [f] ++ [(4, nI os.length, (mTT tx n (k + 1)).2.1, nI 0, x)]) (os ++ [(11, (mTT tx n (k + 1)).2.1, 0, 0, (mTT tx n (k + 1)).2.2.1)]) ks := a6
      obtain ⟨s7, e7, a7, r7, f7⟩ := m_endCall (D := D + 4) a6' hW (by rw [l3]; omega) (by rw [List.getElem?_append_right (Nat.le_refl _), Nat.sub_self]; rfl)
      rw [List.set_append_right _ _ (Nat.le_refl _), Nat.sub_self, List.append_assoc] at a7
      refine ⟨s7, fun m => c0 none s7 m ?_, a7, r1.tr (r2.tr (r3.tr (r4.tr (r5.tr (r6.tr r7))))), f7⟩
      rw [pre2, xV_97, e5, bN_s, xg_97_61, a5.2.1.2.1, if_pos (show (0 : Int32) ≤ 0 by decide), xV_97, v_sign a5.at (by decide), bI_s, i01, if_pos h41, xV_97, e6, bN_s, xg_97_76, a6'.top.2, pk1, xV_97, e7, bN_s]
    · obtain ⟨s5, e5, a5, r5, f5⟩ := m_opens (d := D + 3) a4 (c := 40) (by decide) h40 o12
      obtain ⟨s6, e6, a6, r6, f6⟩ := (m_beginA (D := D + 4) a5 hW (j := 0) rfl (by omega)).1 hv (by omega)
      refine ⟨s6, fun m => c1 s6 m ?_, a6, r1.tr (r2.tr (r3.tr (r4.tr (r5.tr r6))))⟩
      rw [pre2, xV_97, e5, bN_s, xg_97_61, a5.2.1.2.1, if_pos (show (0 : Int32) ≤ 0 by decide), xV_97, v_sign a5.at (by decide), bI_s, i01, if_neg h41, xg_97_76, a5.top.2, pk1, xV_97, e6, bI_s, if_pos nz1]
    · obtain ⟨s5, e5, a5, r5, f5⟩ := m_opens (d := D + 3) a4 (c := 40) (by decide) h40 o12
      obtain ⟨s6, e6, z6, r6⟩ := (m_beginA (D := D + 4) a5 hW (j := 0) rfl (by omega)).2.1 hv
      rw [l3] at z6
      refine ⟨s6, fun m => ?_, z6, r1.tr (r2.tr (r3.tr (r4.tr (r5.tr r6))))⟩
      rw [c1 s6 (m + 1)]
      · exact lE_z z6 1
      · rw [pre2, xV_97, e5, bN_s, xg_97_61, a5.2.1.2.1, if_pos (show (0 : Int32) ≤ 0 by decide), xV_97, v_sign a5.at (by decide), bI_s, i01, if_neg h41, xg_97_76, a5.top.2, pk1, xV_97, e6, bI_s, if_pos nz1]
end MJ77
