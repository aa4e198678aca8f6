/-! ===== the reference: a CLASS's head ===== -/
def RH (T : TT) (b : Nat) (s : mjSt3) (ks : List Nat) (C fm : Nat) (hd : HD) : Prop := s.2.1 101 C = (T hd.1).2.2.1 ∧ s.1 102 C = (T hd.1).2.1 ∧ RN T s C (hd.1 + 2) hd.2.1 ∧ (hd.2.2.1 = 0 → s.1 103 C = -1 ∧ s.1 105 C = -1) ∧ (¬ hd.2.2.1 = 0 → s.1 103 C = (T (hd.2.2.1 - 1)).2.1 ∧ ∃ i, ks[i]? = some hd.2.2.1 ∧ s.1 105 C = nI (800 * b + i)) ∧ RI T s C hd.2.2.2.1 hd.2.2.2.2 ∧ s.1 107 C = nI fm ∧ hd.2.1 ≤ 5 ∧ hd.2.2.2.2 ≤ 8
def chCl (b C fm h j : Nat) : Prop := chS b h j ∨ (h = 97 ∧ (j = 65 ∨ j = 66)) ∨ ((h = 100 ∨ h = 120) ∧ j = b) ∨ (102 ≤ h ∧ h ≤ 108 ∧ j = C) ∨ (h = 112 ∧ 5 * C ≤ j ∧ j < 5 * C + 5) ∨ ((h = 115 ∨ h = 116) ∧ 8 * C ≤ j ∧ j < 8 * C + 8) ∨ (124 ≤ h ∧ h ≤ 131 ∧ 400 * b + fm ≤ j ∧ j < 400 * b + 400) ∨ ((h = 133 ∨ h = 134) ∧ 6 * (400 * b + fm) ≤ j ∧ j < 6 * (400 * b + 400))
def chClL (b C fm h j : Nat) : Prop := chEL b h j ∨ (h = 101 ∧ j = C) ∨ (h = 111 ∧ 5 * C ≤ j ∧ j < 5 * C + 5) ∨ ((h = 113 ∨ h = 114) ∧ 8 * C ≤ j ∧ j < 8 * C + 8) ∨ (h = 132 ∧ 400 * b + fm ≤ j ∧ j < 400 * b + 400) ∨ (h = 135 ∧ 6 * (400 * b + fm) ≤ j ∧ j < 6 * (400 * b + 400))
def offCl (b C fm : Nat) : mjSt3 → mjSt3 → Prop := offG (chCl b C fm) (chClL b C fm)
def chAb (b C h j : Nat) : Prop := chE b h j ∨ ((h = 103 ∨ h = 105) ∧ j = C)
section MJ98
variable {tx : Nat → Int32} {n b D k o N C ci fm : Nat} {s s' : mjSt3} {W : List WF} {os : List Row} {ks : List Nat}
theorem offCl_S (h : offS b s s') : offCl b C fm s s' := offG.mono h (fun _ _ q => Or.inl q) (fun _ _ q => Or.inl q)
theorem offCl_E (h : offE b s s') : offCl b C fm s s' := offCl_S (offS_of h)
theorem offCl_Na (h : offNa b C s s') : offCl b C fm s s' := offG.mono h (fun x y q => by
  rcases q with q | q | q
  · exact Or.inl (Or.inl q)
  · unfold chCl; omega
  · unfold chCl; omega) (fun x y q => by
  rcases q with q | q
  · exact Or.inl q
  · unfold chClL; omega)
theorem offCl_In (h : offIn b C s s') : offCl b C fm s s' := offG.mono h (fun x y q => by
  rcases q with q | q | q
  · exact Or.inl (Or.inl q)
  · unfold chCl; omega
  · unfold chCl; omega) (fun x y q => by
  rcases q with q | q
  · exact Or.inl q
  · unfold chClL; omega)
theorem offCl_Ab (h : offG (chAb b C) (chEL b) s s') : offCl b C fm s s' := offG.mono h (fun x y q => by
  rcases q with q | q
  · exact Or.inl (Or.inl q)
  · unfold chCl; omega) (fun x y q => Or.inl q)
/-- the { -/
theorem c_open (h : MR tx n b s k 0 W os ks) : ((mTT tx n k).1 = 123 → ∃ s', b_267_358 (mjF (D + 14)) 97 (nI C) (mjW0 s) = L_267_371 (mjF (D + 14)) mjN 97 (nI C) (mjW0 s') ∧ MR tx n b s' (k + 1) 1 W os ks ∧ offE b s s') ∧ (¬ (mTT tx n k).1 = 123 → ∃ s', b_267_358 (mjF (D + 14)) 97 (nI C) (mjW0 s) = some (none, mjW0 s') ∧ MZ (mTT tx n) b s' (F2 (mTT tx n) k) os.length ∧ offE b s s') := by
  unfold b_267_358
  rw [xg_97_61, h.2.1.2.1, if_pos rfl, xV_97]
  refine ⟨fun e => ?_, fun e => ?_⟩
  · obtain ⟨s1, e1, a1, r1, f1⟩ := m_opens (d := D + 10) h (c := 123) (by decide) e (by omega)
    exact ⟨s1, by rw [e1, bN_s], a1, r1⟩
  · have e1 := m_opens2 (d := D + 10) h (c := 123) (by decide) e
    exact ⟨_, by rw [e1, bN_s]; exact cl_bad (m_wz h), m_wz h, bS_off _ _⟩
/-- where -/
theorem c_where (h0 : (mTT tx n N).1 = 0) (hN : N ≤ 3000) (hC : C < 32) (hk : k ≤ N) (h : MR tx n b s k o W os ks) (p : s.1 106 C = 0) : match pWhere (mTT tx n) k with
    | .inl e => ∃ s', b_267_338 (mjF (D + 14)) 97 (nI C) (mjW0 s) = some (none, mjW0 s') ∧ MZ (mTT tx n) b s' e os.length ∧ offIn b C s s'
    | .inr w => w.2 ≤ N ∧ k ≤ w.2 ∧ w.1 ≤ 8 ∧ ∃ s', b_267_338 (mjF (D + 14)) 97 (nI C) (mjW0 s) = b_267_358 (mjF (D + 14)) 97 (nI C) (mjW0 s') ∧ MR tx n b s' w.2 o W os ks ∧ RI (mTT tx n) s' C (k + 1) w.1 ∧ offIn b C s s' := by
  have w7 : mjF (D + 14) 266 [.ref 97, .int 3] (mjW0 s) = _ := v_word (d := D + 13) h.at (w := 2) (by decide)
  rw [show nI (2 + 5) = 7 from rfl] at w7
  have pre : b_267_338 (mjF (D + 14)) 97 (nI C) (mjW0 s) = if (mTT tx n k).1 = 7 then bN (mjF (D + 14) 273 [.ref 97, .int (nI C)] (mjW0 s)) (fun hp4 => b_267_358 (mjF (D + 14)) 97 (nI C) hp4) else b_267_358 (mjF (D + 14)) 97 (nI C) (mjW0 s) := by
    unfold b_267_338
    rw [xg_97_61, h.2.1.2.1, if_pos rfl, xV_97, w7, bI_s, i01, xV_97]
  unfold pWhere
  by_cases e : (mTT tx n k).1 = 7
  · rw [if_pos e]
    have I := m_ins (D := D) h0 hN hC hk h p e
    cases hp : pIns (mTT tx n) 9 0 (k + 1) with
    | inl e2 =>
      rw [hp] at I
      obtain ⟨s1, e1, z1, r1⟩ := I
      exact ⟨s1, by rw [pre, if_pos e, e1, bN_s, cl_bad3 z1], z1, r1⟩
    | inr y =>
      rw [hp] at I
      obtain ⟨i1, i2, i3, i4, s1, e1, a1, p1, r1⟩ := I
      exact ⟨i1, by omega, i4, s1, by rw [pre, if_pos e, e1, bN_s], a1, p1, r1⟩
  · rw [if_neg e]
    exact ⟨hk, Nat.le_refl _, by show 0 ≤ 8; omega, s, by rw [pre, if_neg e], h, ⟨by rw [p]; rfl, fun j hj => absurd (show j < 0 from hj) (by omega)⟩, offG.rf⟩
/-- is -/
theorem c_above (h0 : (mTT tx n N).1 = 0) (hN : N ≤ 3000) (hC : C < 32) (hk : k ≤ N) (hks : ks.length < 790) (h : MR tx n b s k o W os ks) : match pAbove (mTT tx n) k with
    | .inl e => ∃ s', b_267_299 (mjF (D + 14)) 97 (nI C) (mjW0 s) = some (none, mjW0 s') ∧ MZ (mTT tx n) b s' e os.length ∧ offG (chAb b C) (chEL b) s s'
    | .inr c2 => c2 ≤ N ∧ k ≤ c2 ∧ ((mTT tx n k).1 = 6 → k + 5 ≤ c2) ∧ ∃ s', b_267_299 (mjF (D + 14)) 97 (nI C) (mjW0 s) = b_267_338 (mjF (D + 14)) 97 (nI C) (mjW0 s') ∧ MR tx n b s' c2 o W os (ks ++ (if (mTT tx n k).1 = 6 then [k + 1] else [])) ∧ ((mTT tx n k).1 = 6 → s'.1 103 C = (mTT tx n k).2.1 ∧ s'.1 105 C = nI (800 * b + ks.length)) ∧ (¬ (mTT tx n k).1 = 6 → s' = s) ∧ offG (chAb b C) (chEL b) s s' := by
  have w6 : mjF (D + 14) 266 [.ref 97, .int 2] (mjW0 s) = _ := v_word (d := D + 13) h.at (w := 1) (by decide)
  rw [show nI (1 + 5) = 6 from rfl] at w6
  obtain ⟨t1, h1⟩ : ∃ t, t = uI s 103 (upd (s.1 103) C (mTT tx n k).2.1) := ⟨_, rfl⟩
  have k1 : offG chRow chRowL s t1 := by rw [h1]; exact offG.w (by unfold chRow; omega)
  have o1 : offG (chAb b C) (chEL b) s t1 := by rw [h1]; exact offG.w (by unfold chAb; omega)
  have pre : b_267_299 (mjF (D + 14)) 97 (nI C) (mjW0 s) = if (mTT tx n k).1 = 6 then bN (mjF (D + 14) 262 [.ref 97] (mjW0 t1)) (fun hp7 => gR hp7 97 12 16 (fun v8 => rV hp7 97 12 (bI (mjF (D + 14) 272 [.ref 97] hp7) (fun v9 hp10 => sI hp10 v8 (nI C) v9 (fun hp11 => b_267_338 (mjF (D + 14)) 97 (nI C) hp11))))) else b_267_338 (mjF (D + 14)) 97 (nI C) (mjW0 s) := by
    unfold b_267_299
    rw [xg_97_61, h.2.1.2.1, if_pos rfl, xV_97, w6, bI_s, i01, xg_97_14, xg_97_4, h.at.2.2.1, xs_103, if_pos (mj_in_nI hC (by decide)), nI_clamp (by omega), ← h1, xV_97]
  unfold pAbove
  by_cases e : (mTT tx n k).1 = 6
  · rw [if_pos e]
    have hl := lt_N hN h0 hk e (by decide)
    have a1 := h.keep k1
    obtain ⟨s2, e2, a2, r2, f2⟩ := m_next (d := D + 11) a1 (by rw [e]; decide)
    have Kd := m_kind (d := D + 8) a2 hks
    have r02 : offG (chAb b C) (chEL b) s s2 := o1.tr (offG.mono r2 (fun _ _ q => Or.inl q) (fun _ _ q => q))
    have pre2 : b_267_299 (mjF (D + 14)) 97 (nI C) (mjW0 s) = bI (mjF (D + 14) 272 [.ref 97] (mjW0 s2)) (fun v9 hp10 => sI hp10 105 (nI C) v9 (fun hp11 => b_267_338 (mjF (D + 14)) 97 (nI C) hp11)) := by
      rw [pre, if_pos e, e2, bN_s, xg_97_16, xV_97]
    cases hp : pKind (mTT tx n) (k + 1) with
    | inl e3 =>
      rw [hp] at Kd
      obtain ⟨s3, v, e3', z3, r3⟩ := Kd
      have z4 := z3.keep (s' := uI s3 105 (upd (s3.1 105) C v)) (offG.w (by unfold chRow; omega))
      refine ⟨_, ?_, z4, r02.tr ((offG.mono r3.1 (fun _ _ q => Or.inl q) (fun _ _ q => q)).tr (offG.w (Or.inr ⟨Or.inr rfl, rfl⟩)))⟩
      rw [pre2, e3', bI_s, xs_105, if_pos (mj_in_nI hC (by decide)), nI_clamp (by omega), cl_bad2 z4]
    | inr c' =>
      rw [hp] at Kd
      obtain ⟨s3, e3', a3, r3, f3⟩ := Kd
      have hln := pKind_len hp
      have hle : c' ≤ N := pType_le hN h0 hl (show pType (mTT tx n) (k + 1) = .inr c' by
        unfold pType
        by_cases e10 : (mTT tx n (k + 1)).1 = 10
        · exfalso
          unfold pKind at hp
          rw [if_neg (by rw [e10]; decide)] at hp
          cases hp
        · rw [if_neg e10]; exact hp)
      obtain ⟨t4, h4⟩ : ∃ t, t = uI s3 105 (upd (s3.1 105) C (nI (800 * b + ks.length))) := ⟨_, rfl⟩
      have k4 : offG chRow chRowL s3 t4 := by rw [h4]; exact offG.w (by unfold chRow; omega)
      have o4 : offG (chAb b C) (chEL b) s3 t4 := by rw [h4]; exact offG.w (by unfold chAb; omega)
      refine ⟨hle, by omega, fun _ => by omega, t4, ?_, ?_, fun _ => ⟨?_, ?_⟩, fun q => absurd e q, r02.tr ((offG.mono r3 (fun _ _ q => Or.inl q) (fun _ _ q => q)).tr o4)⟩
      · rw [pre2, e3', bI_s, xs_105, if_pos (mj_in_nI hC (by decide)), nI_clamp (by omega), ← h4]
      · rw [if_pos e]; exact a3.keep k4
      · rw [h4, uI_ne _ _ _ _ (by decide), r3.1 103 C (by unfold chE; omega), r2.1 103 C (by unfold chE; omega), h1, uI_same]; exact if_pos rfl
      · rw [h4, uI_same]; exact if_pos rfl
  · rw [if_neg e]
    exact ⟨hk, Nat.le_refl _, fun q => absurd q e, s, by rw [pre, if_neg e], by rw [if_neg e, List.append_nil]; exact h, fun q => absurd q e, fun _ => rfl, offG.rf⟩
/-- the rows that a CLASSNAME fills -/
def clS (s : mjSt3) (b C ci fm : Nat) (nm : Int64) (x : Int32) : mjSt3 := uI (uI (uI (uI (uI (uI (uI (uL (uI (uI s 97 (upd (s.1 97) 65 (nI C))) 100 (upd (s.1 100) b (nI (ci + 1)))) 101 (vp_updL (s.2.1 101) C nm)) 102 (upd (s.1 102) C x)) 103 (upd (s.1 103) C (-1))) 105 (upd (s.1 105) C (-1))) 106 (upd (s.1 106) C 0)) 104 (upd (s.1 104) C 0)) 107 (upd (s.1 107) C (nI fm))) 108 (upd (s.1 108) C 0)
theorem clS_off {nm : Int64} {x : Int32} : offCl b C fm s (clS s b C ci fm nm x) ∧ offG chRow chRowL s (clS s b C ci fm nm x) := by
  unfold clS
  refine ⟨?_, ?_⟩
  · exact (((((offG.w (by unfold chCl; omega)).tr (offG.w (h := 100) (by unfold chCl; omega))).tr (offG.wl (h := 101) (by unfold chClL; omega))).tr (offG.w (h := 102) (by unfold chCl; omega))).tr (offG.w (h := 103) (by unfold chCl; omega))).tr ((((offG.w (h := 105) (by unfold chCl; omega)).tr (offG.w (h := 106) (by unfold chCl; omega))).tr (offG.w (h := 104) (by unfold chCl; omega))).tr ((offG.w (h := 107) (by unfold chCl; omega)).tr (offG.w (h := 108) (by unfold chCl; omega))))
  · exact (((((offG.w (by unfold chRow; omega)).tr (offG.w (h := 100) (by unfold chRow; omega))).tr (offG.wl (h := 101) (by unfold chRowL; omega))).tr (offG.w (h := 102) (by unfold chRow; omega))).tr (offG.w (h := 103) (by unfold chRow; omega))).tr ((((offG.w (h := 105) (by unfold chRow; omega)).tr (offG.w (h := 106) (by unfold chRow; omega))).tr (offG.w (h := 104) (by unfold chRow; omega))).tr ((offG.w (h := 107) (by unfold chRow; omega)).tr (offG.w (h := 108) (by unfold chRow; omega))))
theorem clS_at {nm : Int64} {x : Int32} : (clS s b C ci fm nm x).1 100 b = nI (ci + 1) ∧ (clS s b C ci fm nm x).2.1 101 C = nm ∧ (clS s b C ci fm nm x).1 102 C = x ∧ (clS s b C ci fm nm x).1 103 C = -1 ∧ (clS s b C ci fm nm x).1 105 C = -1 ∧ (clS s b C ci fm nm x).1 106 C = 0 ∧ (clS s b C ci fm nm x).1 104 C = 0 ∧ (clS s b C ci fm nm x).1 107 C = nI fm ∧ (clS s b C ci fm nm x).1 108 C = 0 ∧ (clS s b C ci fm nm x).1 120 = s.1 120 := by
  unfold clS
  refine ⟨?_, ?_, ?_, ?_, ?_, ?_, ?_, ?_, ?_, rfl⟩
  · simp [uI_g, upd_g, uL_i]
  · show vp_updL _ _ _ _ = _
    exact if_pos rfl
  · simp [uI_g, upd_g, uL_i]
  · simp [uI_g, upd_g, uL_i]
  · simp [uI_g, upd_g, uL_i]
  · simp [uI_g, upd_g, uL_i]
  · simp [uI_g, upd_g, uL_i]
  · simp [uI_g, upd_g, uL_i]
  · simp [uI_g, upd_g, uL_i]
theorem idx16 {m : Nat} : (16 : Int32) * nI b + nI m = nI (16 * b + m) := by
  rw [show (16 : Int32) = nI 16 from rfl, pk_mul, nI_add]
/-- readClass up to its { -/
theorem m_clh (h0 : (mTT tx n N).1 = 0) (hN : N ≤ 3000) (hci : ci ≤ 16) (hfm : fm ≤ 384) (hk : k ≤ N) (hos : 6 * os.length ≤ 7 * k) (hks : 4 * ks.length ≤ k) (h : MR tx n b s k 0 W os ks) (e5 : (mTT tx n k).1 = 5) (h100 : s.1 100 b = nI ci) (h120 : s.1 120 b = nI fm) : match pHead (mTT tx n) ci k with
    | .inl e => ∃ s' x, mjF (D + 15) 267 [.ref 97] (mjW0 s) = some (none, mjW0 s') ∧ MZ (mTT tx n) b s' e x ∧ x ≤ 4720 ∧ offCl b (16 * b + ci) fm s s'
    | .inr hh => hh.1 ≤ N ∧ k + 4 ≤ hh.1 ∧ 4 * (hdK hh.2).length + k + 1 ≤ hh.1 ∧ ci < 16 ∧ ∃ s', mjF (D + 15) 267 [.ref 97] (mjW0 s) = L_267_371 (mjF (D + 14)) mjN 97 (nI (16 * b + ci)) (mjW0 s') ∧ MR tx n b s' hh.1 1 W os (ks ++ hdK hh.2) ∧ RH (mTT tx n) b s' (ks ++ hdK hh.2) (16 * b + ci) fm hh.2 ∧ s'.1 100 b = nI (ci + 1) ∧ s'.1 120 b = nI fm ∧ s'.1 108 (16 * b + ci) = 0 ∧ offCl b (16 * b + ci) fm s s' := by
  have hmj := mjN_v
  have hb := h.2.1.1
  obtain ⟨C, hCe⟩ : ∃ C, C = 16 * b + ci := ⟨_, rfl⟩
  rw [← hCe]
  have A := h.at
  have hkN := lt_N hN h0 hk e5 (by decide)
  unfold pHead
  by_cases e16 : ci = 16
  · rw [if_pos e16]
    refine ⟨_, _, ?_, h.z (e := (3, k)) (Or.inr (Or.inr rfl)), by omega, offCl_E (bS_off _ _)⟩
    rw [e_267]
    unfold f_267 b_267_0
    rw [xg_97_63, h.2.1.2.2.1, xg_97_11, xg_97_63, h.2.1.2.2.1, xa_100, if_pos (mj_in_nI (by omega) (by decide)), nI_clamp (by omega), h100, xg_97_11, xg_97_63, h.2.1.2.2.1, xa_100, if_pos (mj_in_nI (by omega) (by decide)), nI_clamp (by omega), h100, if_pos (show nI ci = 16 by rw [e16]; rfl), xg_97_4, A.2.2.1, xV_97, v_fail h.2.1.2.1, bN_s]
    rfl
  · rw [if_neg e16]
    have hC : C < 32 := by omega
    obtain ⟨s1, e1, a1, r1, f1⟩ := m_next (d := D + 11) h (by rw [e5]; decide)
    have A1 := a1.at
    have S1 := (v_srt A1).1
    have g100 : s1.1 100 b = nI ci := by rw [r1.1 100 b (by unfold chE; omega), h100]
    have g120 : s1.1 120 b = nI fm := by rw [r1.1 120 b (by unfold chE; omega), h120]
    have ad1 : ∀ x, nI x + (1 : Int32) = nI (x + 1) := fun x => by rw [show (1 : Int32) = nI 1 from rfl, nI_add]
    have body : mjF (D + 15) 267 [.ref 97] (mjW0 s) = if (mTT tx n (k + 1)).1 = 2 then bN (mjF (D + 14) 262 [.ref 97] (mjW0 (clS s1 b C ci fm (mTT tx n (k + 1)).2.2.1 (mTT tx n (k + 1)).2.1))) (fun hp36 => rV hp36 97 12 (bN (mjF (D + 14) 270 [.ref 97, .int (91 : Int32)] hp36) (fun hp37 => gI hp37 97 12 61 (fun v38 => (if v38 = 0 then b_267_169 (mjF (D + 14)) 97 (nI C) (1 : Int32) hp37 else b_267_169 (mjF (D + 14)) 97 (nI C) (0 : Int32) hp37))))) else bN (mjF (D + 14) 269 [.ref 97] (mjW0 s1)) (fun hp39 => some (none, hp39)) := by
      rw [e_267]
      unfold f_267 b_267_0
      rw [xg_97_63, h.2.1.2.2.1, xg_97_11, xg_97_63, h.2.1.2.2.1, xa_100, if_pos (mj_in_nI (by omega) (by decide)), nI_clamp (by omega), h100, xg_97_11, xg_97_63, h.2.1.2.2.1, xa_100, if_pos (mj_in_nI (by omega) (by decide)), nI_clamp (by omega), h100, if_neg (show ¬ nI ci = 16 from fun q => e16 ((nI_eq (a := ci) (b := 16) (by omega) (by omega)).mp q)), xV_97, e1, bN_s, xg_97_3, idx16, ← hCe]
      by_cases e2 : (mTT tx n (k + 1)).1 = 2
      · rw [if_pos e2, if_pos (S1.mpr e2), xp_97_65, xg_97_11, xg_97_63]
        rw [show (uI s1 97 (upd (s1.1 97) 65 (nI C))).1 97 63 = nI b by rw [uI_same]; exact (if_neg (by decide)).trans a1.2.1.2.2.1]
        rw [xa_100, if_pos (mj_in_nI (by omega) (by decide)), nI_clamp (by omega), uI_ne _ _ _ _ (by decide), g100, ad1, xs_100, if_pos (mj_in_nI (by omega) (by decide)), nI_clamp (by omega), uI_ne _ _ _ _ (by decide), xg_97_12, xg_97_7, uI_l, uI_l, A1.2.2.2.2 (Or.inl e2), xs_101, if_pos (mj_in_nI hC (by decide)), nI_clamp (by omega), uI_l, uI_l, xg_97_13, xg_97_4, uL_i, uI_ne _ _ _ _ (by decide)]
        rw [show (uI s1 97 (upd (s1.1 97) 65 (nI C))).1 97 4 = (mTT tx n (k + 1)).2.1 by rw [uI_same]; exact (if_neg (by decide)).trans A1.2.2.1]
        rw [xs_102, if_pos (mj_in_nI hC (by decide)), nI_clamp (by omega), xg_97_14, xs_103, if_pos (mj_in_nI hC (by decide)), nI_clamp (by omega), xg_97_16, xs_105, if_pos (mj_in_nI hC (by decide)), nI_clamp (by omega), xg_97_17, xs_106, if_pos (mj_in_nI hC (by decide)), nI_clamp (by omega), xg_97_15, xs_104, if_pos (mj_in_nI hC (by decide)), nI_clamp (by omega), xg_97_18, xg_97_31, xg_97_63]
        generalize hX : uI (uI (uI (uI (uI (uL (uI (uI s1 97 (upd (s1.1 97) 65 (nI C))) 100 (upd (s1.1 100) b (nI (ci + 1)))) 101 (vp_updL (s1.2.1 101) C (mTT tx n (k + 1)).2.2.1)) 102 _) 103 _) 105 _) 106 _) 104 _ = X
        have X63 : X.1 97 63 = nI b := by
          rw [← hX]
          rw [uI_ne _ _ _ _ (by decide), uI_ne _ _ _ _ (by decide), uI_ne _ _ _ _ (by decide), uI_ne _ _ _ _ (by decide), uI_ne _ _ _ _ (by decide), uL_i, uI_ne _ _ _ _ (by decide), uI_same]
          exact (if_neg (by decide)).trans a1.2.1.2.2.1
        have X120 : X.1 120 b = nI fm := by
          rw [← hX]
          rw [uI_ne _ _ _ _ (by decide), uI_ne _ _ _ _ (by decide), uI_ne _ _ _ _ (by decide), uI_ne _ _ _ _ (by decide), uI_ne _ _ _ _ (by decide), uL_i, uI_ne _ _ _ _ (by decide), uI_ne _ _ _ _ (by decide)]
          exact g120
        rw [X63, xa_120, if_pos (mj_in_nI (by omega) (by decide)), nI_clamp (by omega), X120, xs_107, if_pos (mj_in_nI hC (by decide)), nI_clamp (by omega), xg_97_19, xs_108, if_pos (mj_in_nI hC (by decide)), nI_clamp (by omega), xV_97, ← hX]
        rfl
      · rw [if_neg e2, if_neg (fun q => e2 (S1.mp q)), xV_97]
    have r01 : offCl b C fm s s1 := offCl_E r1
    by_cases e2 : (mTT tx n (k + 1)).1 = 2
    · simp only [if_pos e2]
      have hl1 := lt_N hN h0 (show k + 1 ≤ N from hkN) e2 (by decide)
      have ko := clS_off (b := b) (C := C) (ci := ci) (fm := fm) (s := s1) (nm := (mTT tx n (k + 1)).2.2.1) (x := (mTT tx n (k + 1)).2.1)
      have ka := clS_at (b := b) (C := C) (ci := ci) (fm := fm) (s := s1) (nm := (mTT tx n (k + 1)).2.2.1) (x := (mTT tx n (k + 1)).2.1)
      obtain ⟨t2, h2⟩ : ∃ t, t = clS s1 b C ci fm (mTT tx n (k + 1)).2.2.1 (mTT tx n (k + 1)).2.1 := ⟨_, rfl⟩
      rw [← h2] at ko ka body
      have a2 := a1.keep ko.2
      obtain ⟨s3, e3, a3, r3, f3⟩ := m_next (d := D + 11) a2 (by rw [e2]; decide)
      have r03 : offCl b C fm s s3 := r01.tr (ko.1.tr (offCl_E r3))
      have body2 : mjF (D + 15) 267 [.ref 97] (mjW0 s) = bN (mjF (D + 14) 270 [.ref 97, .int (91 : Int32)] (mjW0 s3)) (fun hp37 => gI hp37 97 12 61 (fun v38 => (if v38 = 0 then b_267_169 (mjF (D + 14)) 97 (nI C) (1 : Int32) hp37 else b_267_169 (mjF (D + 14)) 97 (nI C) (0 : Int32) hp37))) := by
        rw [body, if_pos e2, e3, bN_s, xV_97]
      by_cases e91 : (mTT tx n (k + 2)).1 = 91
      · simp only [if_pos e91]
        have hl2 := lt_N hN h0 (show k + 2 ≤ N from hl1) e91 (by decide)
        obtain ⟨s4, e4, a4, r4, f4⟩ := m_take (d := D + 10) a3 (c := 91) (by decide) e91
        have r24 := r3.tr r4
        have r04 : offCl b C fm s s4 := r03.tr (offCl_E r4)
        have body3 : mjF (D + 15) 267 [.ref 97] (mjW0 s) = lNa D mjN C 1 s4 := by
          rw [body2, e4, bN_s, xg_97_61, a4.2.1.2.1, if_pos rfl]
          rfl
        have q4 : ∀ x j, 100 ≤ x → x ≤ 120 → s4.1 x j = t2.1 x j := fun x j e e' => r24.1 x j (by unfold chE; omega)
        have l4 : ∀ j, s4.2.1 101 j = t2.2.1 101 j := fun j => r24.2.1 101 j (by unfold chEL; omega)
        have p4 : RN (mTT tx n) s4 C (k + 3) 0 := ⟨by rw [q4 104 C (by omega) (by omega), ka.2.2.2.2.2.2.1]; rfl, fun j hj => by omega⟩
        have I := nam_ok (D := D) (c0 := k + 3) h0 hN hC 6 0 s4 rfl (by omega) hl2 a4 p4
        rw [show k + 3 + 2 * 0 = k + 3 from rfl] at I
        cases hn : pNames (mTT tx n) 6 0 (k + 3) with
        | inl e =>
          rw [hn] at I
          obtain ⟨s5, j, g1, g2, g3, g4⟩ := I
          refine ⟨s5, _, ?_, g3, by omega, r04.tr (offCl_Na g4)⟩
          rw [body3, show mjN = (mjN - j) + j by omega]; exact g1 _
        | inr a =>
          rw [hn] at I
          obtain ⟨i1, i2, i3, i4, s5, j, g1, g2, a5, p5, r5⟩ := I
          have r05 : offCl b C fm s s5 := r04.tr (offCl_Na r5)
          have body4 : mjF (D + 15) 267 [.ref 97] (mjW0 s) = b_267_299 (mjF (D + 14)) 97 (nI C) (mjW0 s5) := by
            rw [body3, show mjN = (mjN - j) + j by omega]; exact g1 _
          have q5 : ∀ x j, x = 100 ∨ x = 102 ∨ x = 103 ∨ (105 ≤ x ∧ x ≤ 108) ∨ x = 120 → s5.1 x j = t2.1 x j := fun x j e => by
            rw [r5.1 x j (by unfold chNa chE; omega), q4 x j (by omega) (by omega)]
          have l5 : ∀ j, s5.2.1 101 j = t2.2.1 101 j := fun j => by rw [r5.2.1 101 j (by unfold chNaL chEL; omega), l4]
          have J := c_above (D := D) h0 hN hC i1 (by omega) a5
          show match (match pAbove (mTT tx n) a.2 with
            | .inl e => .inl e
            | .inr c2 => (match pWhere (mTT tx n) c2 with
              | .inl e => .inl e
              | .inr w => if (mTT tx n w.2).1 = 123 then .inr (w.2 + 1, k + 1, a.1, if (mTT tx n a.2).1 = 6 then a.2 + 1 else 0, c2 + 1, w.1) else .inl (F2 (mTT tx n) w.2)) : (Nat × Nat) ⊕ (Nat × HD)) with
            | .inl e => _
            | .inr hh => _
          cases hab : pAbove (mTT tx n) a.2 with
          | inl e =>
            rw [hab] at J
            obtain ⟨s6, e6, z6, r6⟩ := J
            exact ⟨s6, _, by rw [body4, e6], z6, by omega, r05.tr (offCl_Ab r6)⟩
          | inr c2 =>
            rw [hab] at J
            obtain ⟨j1, j2, j3, s6, e6, a6, j6, j7, r6⟩ := J
            have r06 : offCl b C fm s s6 := r05.tr (offCl_Ab r6)
            have q6 : ∀ x j, x = 100 ∨ x = 102 ∨ (106 ≤ x ∧ x ≤ 108) ∨ x = 120 → s6.1 x j = t2.1 x j := fun x j e => by
              rw [r6.1 x j (by unfold chAb chE; omega), q5 x j (by omega)]
            have K := c_where (D := D) h0 hN hC j1 a6 (by rw [q6 106 C (by omega), ka.2.2.2.2.2.1])
            show match (match pWhere (mTT tx n) c2 with
              | .inl e => .inl e
              | .inr w => if (mTT tx n w.2).1 = 123 then .inr (w.2 + 1, k + 1, a.1, if (mTT tx n a.2).1 = 6 then a.2 + 1 else 0, c2 + 1, w.1) else .inl (F2 (mTT tx n) w.2) : (Nat × Nat) ⊕ (Nat × HD)) with
            | .inl e => _
            | .inr hh => _
            cases hw : pWhere (mTT tx n) c2 with
            | inl e =>
              rw [hw] at K
              obtain ⟨s7, e7, z7, r7⟩ := K
              exact ⟨s7, _, by rw [body4, e6, e7], z7, by omega, r06.tr (offCl_In r7)⟩
            | inr w =>
              rw [hw] at K
              obtain ⟨k1, k2, k3, s7, e7, a7, p7, r7⟩ := K
              have r07 : offCl b C fm s s7 := r06.tr (offCl_In r7)
              obtain ⟨cp, cn⟩ := c_open (D := D) (C := C) a7
              by_cases e123 : (mTT tx n w.2).1 = 123
              · simp only [if_pos e123]
                have hl7 := lt_N hN h0 k1 e123 (by decide)
                obtain ⟨s8, e8, a8, r8⟩ := cp e123
                have q8 : ∀ x j, x = 100 ∨ x = 102 ∨ x = 107 ∨ x = 108 ∨ x = 120 → s8.1 x j = t2.1 x j := fun x j e => by
                  rw [r8.1 x j (by unfold chE; omega), r7.1 x j (by unfold chIn chE; omega), q6 x j (by omega)]
                have q86 : ∀ x j, (102 ≤ x ∧ x ≤ 105) ∨ x = 112 → s8.1 x j = s6.1 x j := fun x j e => by
                  rw [r8.1 x j (by unfold chE; omega), r7.1 x j (by unfold chIn chE; omega)]
                have q85 : ∀ x j, x = 104 ∨ x = 112 → s8.1 x j = s5.1 x j := fun x j e => by
                  rw [q86 x j (by omega), r6.1 x j (by unfold chAb chE; omega)]
                have l85 : ∀ x j, x = 101 ∨ x = 111 → s8.2.1 x j = s5.2.1 x j := fun x j e => by
                  rw [r8.2.1 x j (by unfold chEL; omega), r7.2.1 x j (by unfold chInL chEL; omega), r6.2.1 x j (by unfold chEL; omega)]
                have hK : hdK (k + 1, a.1, (if (mTT tx n a.2).1 = 6 then a.2 + 1 else 0), c2 + 1, w.1) = if (mTT tx n a.2).1 = 6 then [a.2 + 1] else [] := by
                  unfold hdK
                  by_cases e6 : (mTT tx n a.2).1 = 6
                  · simp only [if_pos e6]; exact if_neg (by omega)
                  · simp only [if_neg e6]; exact if_pos trivial
                refine ⟨hl7, by show k + 4 ≤ w.2 + 1; omega, ?_, by omega, s8, by rw [body4, e6, e7, e8], by rw [hK]; exact a8, ⟨?_, ?_, ?_, fun hz => ?_, fun hz => ?_, p7.off r8, ?_, i4, k3⟩, ?_, ?_, ?_, r07.tr (offCl_E r8)⟩
                · show 4 * (hdK (k + 1, a.1, (if (mTT tx n a.2).1 = 6 then a.2 + 1 else 0), c2 + 1, w.1)).length + k + 1 ≤ w.2 + 1
                  rw [hK]
                  by_cases e6 : (mTT tx n a.2).1 = 6
                  · rw [if_pos e6]; have := j3 e6; show 4 * 1 + k + 1 ≤ w.2 + 1; omega
                  · rw [if_neg e6]; show 4 * 0 + k + 1 ≤ w.2 + 1; omega
                · rw [l85 101 _ (by omega), l5, ka.2.1]
                · rw [q8 102 _ (by omega), ka.2.2.1]
                · refine ⟨?_, fun j hj => ?_⟩
                  · rw [q85 104 _ (by omega)]; exact p5.1
                  · rw [l85 111 _ (by omega), q85 112 _ (by omega)]; exact p5.2 j hj
                · have n6 : ¬ (mTT tx n a.2).1 = 6 := fun q => by
                    have hz' : (if (mTT tx n a.2).1 = 6 then a.2 + 1 else 0) = 0 := hz
                    rw [if_pos q] at hz'; omega
                  have es := j7 n6
                  rw [q86 103 _ (by omega), q86 105 _ (by omega), es, q5 103 _ (by omega), q5 105 _ (by omega)]
                  exact ⟨ka.2.2.2.1, ka.2.2.2.2.1⟩
                · have y6 : (mTT tx n a.2).1 = 6 := by
                    by_cases q : (mTT tx n a.2).1 = 6
                    · exact q
                    · exact absurd (show (if (mTT tx n a.2).1 = 6 then a.2 + 1 else 0) = 0 from if_neg q) hz
                  show s8.1 103 C = (mTT tx n ((if (mTT tx n a.2).1 = 6 then a.2 + 1 else 0) - 1)).2.1 ∧ ∃ i, (ks ++ hdK (k + 1, a.1, (if (mTT tx n a.2).1 = 6 then a.2 + 1 else 0), c2 + 1, w.1))[i]? = some (if (mTT tx n a.2).1 = 6 then a.2 + 1 else 0) ∧ s8.1 105 C = nI (800 * b + i)
                  obtain ⟨x1, x2⟩ := j6 y6
                  rw [hK, if_pos y6, if_pos y6, q86 103 _ (by omega), q86 105 _ (by omega)]
                  refine ⟨x1, ks.length, ?_, x2⟩
                  rw [List.getElem?_append_right (Nat.le_refl _), Nat.sub_self]; rfl
                · rw [q8 107 _ (by omega), ka.2.2.2.2.2.2.2.1]
                · rw [q8 100 _ (by omega), ka.1]
                · rw [q8 120 _ (by omega), ka.2.2.2.2.2.2.2.2.2, g120]
                · rw [q8 108 _ (by omega), ka.2.2.2.2.2.2.2.2.1]
              · simp only [if_neg e123]
                obtain ⟨s8, e8, z8, r8⟩ := cn e123
                exact ⟨s8, _, by rw [body4, e6, e7, e8], z8, by omega, r07.tr (offCl_E r8)⟩
      · simp only [if_neg e91]
        have e4 := m_takeB (d := D + 10) a3 (c := 91) (by decide) e91
        have z4 := m_wz a3
        refine ⟨_, _, ?_, z4, by omega, r03.tr (offCl_E (bS_off _ _))⟩
        rw [body2, e4, bN_s, xg_97_61, if_neg z4.n0]
        unfold b_267_169
        rw [show mjN = (mjN - 1) + 1 by omega, L267_S]
        unfold b_267_170
        rw [if_pos rfl, xg_97_61, if_neg z4.n0, cl_bad1 z4]
    · simp only [if_neg e2]
      exact ⟨_, _, by rw [body, if_neg e2, m_wrong a1, bN_s], m_wz a1, by omega, r01.tr (offCl_E (bS_off _ _))⟩
end MJ98
