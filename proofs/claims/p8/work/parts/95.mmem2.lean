/-! ===== the reference: readMember ===== -/
theorem pPars_len {T : TT} {kq : Nat} : ∀ (f : Nat) (z y : PP), pPars T kq f z = .inr y → 4 * y.2.2.length + z.1 ≤ 4 * z.2.2.length + y.1
  | 0, z, y, h => by cases h
  | f + 1, z, y, h => by
    unfold pPars at h
    by_cases g : tyS (T z.1).1 = true ∧ z.2.1.length = 6
    · rw [if_pos g] at h; cases h
    · rw [if_neg g] at h
      cases ht : pType T z.1 with
      | inl e => rw [ht] at h; cases h
      | inr a =>
        rw [ht] at h
        have hlen := pType_len ht
        have tl : 4 * (tyL T z.1).length + z.1 ≤ a := by
          unfold tyL
          by_cases e : (T z.1).1 = 10
          · rw [if_pos e]; show 4 * 0 + z.1 ≤ a; omega
          · rw [if_neg e]; have := hlen.2 e; show 4 * 1 + z.1 ≤ a; omega
        by_cases g3 : (T a).1 = 3
        · simp only [if_pos g3] at h
          by_cases g4 : (T (a + 1)).1 = 44
          · simp only [if_pos g4] at h
            have := pPars_len f _ y h
            simp only [List.length_append] at this
            omega
          · simp only [if_neg g4] at h
            by_cases g5 : (T (a + 1)).1 = 41
            · simp only [if_pos g5] at h
              cases h
              show 4 * (z.2.2 ++ tyL T z.1).length + z.1 ≤ 4 * z.2.2.length + (a + 2)
              rw [List.length_append]; omega
            · simp only [if_neg g5] at h; cases h
        · simp only [if_neg g3] at h; cases h
theorem pParams_len {T : TT} {kq c : Nat} {y : PP} (h : pParams T kq c = .inr y) : 4 * y.2.2.length + c ≤ y.1 := by
  unfold pParams at h
  by_cases g : (T c).1 = 40
  · rw [if_pos g] at h
    by_cases g2 : (T (c + 1)).1 = 41
    · rw [if_pos g2] at h; cases h; show 4 * 0 + c ≤ c + 2; omega
    · rw [if_neg g2] at h
      have := pPars_len _ _ _ h
      have : 4 * y.2.2.length + (c + 1) ≤ 4 * 0 + y.1 := this
      omega
  · rw [if_neg g] at h; cases h
section MJ95
variable {tx : Nat → Int32} {n b D k o N M C kk mm : Nat} {s s' : mjSt3} {W : List WF} {os : List Row} {ks : List Nat}
/-- behind a MEMBER's NAME: a FIELD -/
theorem m_fld (h : MR tx n b s k o W os ks) (hM : M < 800) (h125 : True) : ((mTT tx n k).1 = 59 → ∃ s', b_275_177 (mjF (D + 13)) 97 (nI M) 125 (nI M) 0 (mjW0 s) = some (none, mjW0 s') ∧ MR tx n b s' (k + 1) o W os ks ∧ s'.1 125 M = 0 ∧ offE b (uI s 125 (upd (s.1 125) M 0)) s') ∧ (¬ (mTT tx n k).1 = 59 → ∃ s', b_275_177 (mjF (D + 13)) 97 (nI M) 125 (nI M) 0 (mjW0 s) = some (none, mjW0 s') ∧ MZ (mTT tx n) b s' (F2 (mTT tx n) k) os.length ∧ offE b (uI s 125 (upd (s.1 125) M 0)) s') := by
  obtain ⟨t, ht⟩ : ∃ t, t = uI s 125 (upd (s.1 125) M 0) := ⟨_, rfl⟩
  have kt : offG chRow chRowL s t := by rw [ht]; exact offG.w (by unfold chRow; omega)
  have a := h.keep kt
  have g : t.1 125 M = 0 := by rw [ht, uI_same]; exact if_pos rfl
  have pre : b_275_177 (mjF (D + 13)) 97 (nI M) 125 (nI M) 0 (mjW0 s) = bN (mjF (D + 13) 270 [.ref 97, .int 59] (mjW0 t)) (fun hp8 => some (none, hp8)) := by
    unfold b_275_177
    rw [xs_125, if_pos (mj_in_nI hM (by decide)), nI_clamp (by omega), ← ht, xg_97_36, xa_125, if_pos (mj_in_nI hM (by decide)), nI_clamp (by omega), g, if_pos rfl, xV_97]
  rw [← ht]
  refine ⟨fun e => ?_, fun e => ?_⟩
  · obtain ⟨s1, e1, a1, r1, f1⟩ := m_take (d := D + 9) a (c := 59) (by decide) e
    exact ⟨s1, by rw [pre, e1, bN_s], a1, by rw [r1.1 125 M (by unfold chE; omega), g], r1⟩
  · have e1 := m_takeB (d := D + 9) a (c := 59) (by decide) e
    exact ⟨_, by rw [pre, e1, bN_s], m_wz a, bS_off _ _⟩
/-- behind a MEMBER's NAME: PARAMS and BLOCK -/
theorem m_prm (h0 : (mTT tx n N).1 = 0) (hN : N ≤ 3000) (hM : M < 800) (ho : o < 12) (hk : k ≤ N) (hos : 6 * os.length ≤ 7 * k) (hks : 4 * ks.length ≤ k) (h : MR tx n b s k o W os ks) (p : RP (mTT tx n) s M []) (h40 : (mTT tx n k).1 = 40) : match pParams (mTT tx n) (800 * b + ks.length) k with
    | .inl e => ∃ s' x, b_275_177 (mjF (D + 13)) 97 (nI M) 125 (nI M) 1 (mjW0 s) = some (none, mjW0 s') ∧ MZ (mTT tx n) b s' e x ∧ x ≤ 4720 ∧ offMm b M C s s'
    | .inr y => y.1 ≤ N ∧ k + 2 ≤ y.1 ∧ y.2.1.length ≤ 6 ∧ 4 * (ks ++ y.2.2).length ≤ y.1 ∧ ∃ s' W', b_275_177 (mjF (D + 13)) 97 (nI M) 125 (nI M) 1 (mjW0 s) = b_275_380 (mjF (D + 13)) 97 (nI M) (mjW0 s') ∧ MR tx n b s' y.1 o W' os (ks ++ y.2.2) ∧ RP (mTT tx n) s' M y.2.1 ∧ s'.1 125 M = 1 ∧ s'.1 120 = s.1 120 ∧ s'.1 108 = s.1 108 ∧ (∀ md, RM0 (mTT tx n) s M C md → RM0 (mTT tx n) s' M C md) ∧ offMm b M C s s' := by
  have hmj := mjN_v
  obtain ⟨t, ht⟩ : ∃ t, t = uI s 125 (upd (s.1 125) M 1) := ⟨_, rfl⟩
  have kt : offG chRow chRowL s t := by rw [ht]; exact offG.w (by unfold chRow; omega)
  have mt : offMm b M C s t := by rw [ht]; exact offG.w (by unfold chMm; omega)
  have a := h.keep kt
  have g : t.1 125 M = 1 := by rw [ht, uI_same]; exact if_pos rfl
  have qt : ∀ x, ¬ x = 125 → t.1 x = s.1 x := fun x e => by rw [ht]; exact uI_ne _ _ _ _ e
  have lt : t.2 = s.2 := by rw [ht]; rfl
  have pt : RP (mTT tx n) t M [] := by
    unfold RP
    rw [qt 128 (by decide), qt 133 (by decide), qt 134 (by decide), lt]; exact p
  have hkN := lt_N hN h0 hk h40 (by decide)
  obtain ⟨s1, e1, a1, r1, f1⟩ := m_opens (d := D + 9) a (c := 40) (by decide) h40 ho
  have p1 := pt.off r1
  have pre : b_275_177 (mjF (D + 13)) 97 (nI M) 125 (nI M) 1 (mjW0 s) = if (mTT tx n (k + 1)).1 = 41 then lP D mjN M 0 s1 else lP D mjN M 1 s1 := by
    unfold b_275_177
    rw [xs_125, if_pos (mj_in_nI hM (by decide)), nI_clamp (by omega), ← ht, xg_97_36, xa_125, if_pos (mj_in_nI hM (by decide)), nI_clamp (by omega), g, if_neg (show ¬ (1 : Int32) = 0 by decide), xV_97, e1, bN_s, xg_97_61, a1.2.1.2.1, if_pos rfl, xV_97, v_sign a1.at (c := 41) (by decide), bI_s, i01]
    rfl
  have r01 : offMm b M C s s1 := mt.tr (offMm_E r1)
  have keep : ∀ s2, offPa b M s1 s2 → s2.1 125 M = 1 ∧ s2.1 120 = s.1 120 ∧ s2.1 108 = s.1 108 ∧ (∀ md, RM0 (mTT tx n) s M C md → RM0 (mTT tx n) s2 M C md) := by
    intro s2 r2
    have q : ∀ x j, x = 108 ∨ x = 120 ∨ x = 124 ∨ x = 125 ∨ x = 126 ∨ x = 127 → s2.1 x j = t.1 x j := fun x j e => by
      rw [r2.1 x j (by unfold chPa chE; omega), r1.1 x j (by unfold chE; omega)]
    have l : ∀ j, s2.2.1 132 j = t.2.1 132 j := fun j => by
      rw [r2.2.1 132 j (by unfold chPaL chEL; omega), r1.2.1 132 j (by unfold chEL; omega)]
    refine ⟨?_, ?_, ?_, fun md hm => ?_⟩
    · rw [q 125 M (by omega), g]
    · funext j; rw [q 120 j (by omega), qt 120 (by decide)]
    · funext j; rw [q 108 j (by omega), qt 108 (by decide)]
    · unfold RM0 at hm ⊢
      rw [q 124 M (by omega), q 126 M (by omega), q 127 M (by omega), l, qt 124 (by decide), qt 126 (by decide), qt 127 (by decide), lt]; exact hm
  unfold pParams
  rw [if_pos h40]
  by_cases h41 : (mTT tx n (k + 1)).1 = 41
  · rw [if_pos h41]
    have hl2 := lt_N hN h0 (show k + 1 ≤ N from hkN) h41 (by decide)
    obtain ⟨s2, e2, a2, r2⟩ := (p_close (D := D) (M := M) a1).1 h41
    obtain ⟨x1, x2, x3, x4⟩ := keep s2 (offPa_of r2)
    refine ⟨hl2, Nat.le_refl _, by show 0 ≤ 6; omega, by show 4 * (ks ++ []).length ≤ k + 2; rw [List.append_nil]; omega, s2, W, ?_, ?_, p1.off r2, x1, x2, x3, x4, r01.tr (offMm_E r2)⟩
    · rw [pre, if_pos h41, show mjN = (mjN - 1) + 1 by omega, e2]
    · show MR tx n b s2 (k + 1 + 1) o W os (ks ++ [])
      rw [List.append_nil]; exact a2
  · rw [if_neg h41]
    have I := par_ok (D := D) (ks0 := ks) h0 hN hM 7 (k + 1, [], []) s1 W rfl (by show 0 ≤ 6; omega) hkN (by show 4 * (ks ++ []).length ≤ k + 1; rw [List.append_nil]; omega) (by show MR tx n b s1 (k + 1) (o + 1) W os (ks ++ []); rw [List.append_nil]; exact a1) p1
    cases hp : pPars (mTT tx n) (800 * b + ks.length) 7 (k + 1, [], []) with
    | inl e =>
      rw [hp] at I
      obtain ⟨s2, j, g1, g2, g3, g4⟩ := I
      refine ⟨s2, _, ?_, g3, by omega, r01.tr (offMm_P g4)⟩
      rw [pre, if_neg h41, show mjN = (mjN - j) + j by omega]
      exact g1 _
    | inr y =>
      rw [hp] at I
      obtain ⟨i1, i2, i3, i4, s2, j, W2, g1, g2, g3, g4, g5⟩ := I
      have i2' : k + 1 + 3 ≤ y.1 := i2
      obtain ⟨x1, x2, x3, x4⟩ := keep s2 g5
      refine ⟨i1, by omega, i3, i4, s2, W2, ?_, g3, g4, x1, x2, x3, x4, r01.tr (offMm_P g5)⟩
      rw [pre, if_neg h41, show mjN = (mjN - j) + j by omega]
      exact g1 _
/-- readMember -/
theorem m_mem (h0 : (mTT tx n N).1 = 0) (hN : N ≤ 3000) (hC : C < 32) (hmm : mm < 400) (hkk : kk ≤ 24) (hk : k ≤ N) (hos : 6 * os.length ≤ 7 * k) (hks : 4 * ks.length ≤ k) (h : MR tx n b s k 1 W os ks) (ty : tyS (mTT tx n k).1 = true) (h108 : s.1 108 C = nI kk) (h120 : s.1 120 b = nI mm) : match pMem (mTT tx n) (N + 1) kk k (800 * b + ks.length) os.length with
    | .inl e => ∃ s' x, mjF (D + 14) 275 [.ref 97, .int (nI C)] (mjW0 s) = some (none, mjW0 s') ∧ MZ (mTT tx n) b s' e x ∧ x ≤ 4720 ∧ offMm b (400 * b + mm) C s s'
    | .inr r => k < r.1 ∧ r.1 ≤ N ∧ 6 * r.2.2.2.1.length ≤ 7 * (r.1 - k) ∧ 4 * r.2.2.1.length ≤ r.1 - k ∧ kk < 24 ∧ ∃ s' W', mjF (D + 14) 275 [.ref 97, .int (nI C)] (mjW0 s) = some (none, mjW0 s') ∧ MR tx n b s' r.1 1 W' (os ++ r.2.2.2.1) (ks ++ r.2.2.1) ∧ RM (mTT tx n) s' (400 * b + mm) C r.2.1 ∧ s'.1 108 C = nI (kk + 1) ∧ s'.1 120 b = nI (mm + 1) ∧ offMm b (400 * b + mm) C s s' := by
  have hb := h.2.1.1
  obtain ⟨M, hMe⟩ : ∃ M, M = 400 * b + mm := ⟨_, rfl⟩
  have hM : M < 800 := by omega
  rw [← hMe]
  have A := h.at
  unfold pMem
  by_cases e24 : kk = 24
  · rw [if_pos e24]
    refine ⟨_, _, ?_, h.z (e := (3, k)) (Or.inr (Or.inr rfl)), by omega, offMm_E (bS_off _ _)⟩
    rw [e_275]
    unfold f_275 b_275_0
    rw [xV_97, v_type A, bI_s, i01, if_pos ty, xg_97_19, xa_108, if_pos (mj_in_nI hC (by decide)), nI_clamp (by omega), h108, if_pos (show nI kk = 24 by rw [e24]; rfl), xg_97_4, A.2.2.1, xV_97, v_fail h.2.1.2.1, bN_s]
    rfl
  · rw [if_neg e24]
    obtain ⟨t1, h1⟩ : ∃ t, t = uI s 124 (upd (s.1 124) M (nI C)) := ⟨_, rfl⟩
    have k1 : offG chRow chRowL s t1 := by rw [h1]; exact offG.w (by unfold chRow; omega)
    have m1 : offMm b M C s t1 := by rw [h1]; exact offG.w (by unfold chMm; omega)
    have a1 := h.keep k1
    have q1 : ∀ x, ¬ x = 124 → t1.1 x = s.1 x := fun x e => by rw [h1]; exact uI_ne _ _ _ _ e
    have Ty := m_type (d := D + 6) a1 (by omega)
    have body : mjF (D + 14) 275 [.ref 97, .int (nI C)] (mjW0 s) = bI (mjF (D + 13) 277 [.ref 97] (mjW0 t1)) (fun v12 hp13 => sI hp13 126 (nI M) v12 (fun hp14 => gI hp14 97 12 61 (fun v15 => (if v15 ≤ 0 then gI hp14 97 12 3 (fun v16 => (if v16 = (2 : Int32) then gR hp14 97 12 31 (fun v17 => gI hp14 97 12 63 (fun v18 => aI hp14 v17 v18 (fun v19 => sI hp14 v17 v18 (v19 + (1 : Int32)) (fun hp20 => gR hp20 97 12 19 (fun v21 => aI hp20 v21 (nI C) (fun v22 => sI hp20 v21 (nI C) (v22 + (1 : Int32)) (fun hp23 => gR hp23 97 12 43 (fun v24 => gL hp23 97 12 7 (fun v25 => sL hp23 v24 (nI M) v25 (fun hp26 => gR hp26 97 12 38 (fun v27 => gI hp26 97 12 4 (fun v28 => sI hp26 v27 (nI M) v28 (fun hp29 => gR hp29 97 12 39 (fun v30 => sI hp29 v30 (nI M) (0 : Int32) (fun hp31 => gR hp31 97 12 40 (fun v32 => sI hp31 v32 (nI M) (-1 : Int32) (fun hp33 => gR hp33 97 12 42 (fun v34 => sI hp33 v34 (nI M) (0 : Int32) (fun hp35 => rV hp35 97 12 (bN (mjF (D + 13) 262 [.ref 97] hp35) (fun hp36 => gR hp36 97 12 36 (fun v37 => rV hp36 97 12 (bI (mjF (D + 13) 271 [.ref 97, .int (40 : Int32)] hp36) (fun v38 hp39 => (if v38 = 0 then b_275_177 (mjF (D + 13)) 97 (nI M) v37 (nI M) (0 : Int32) hp39 else b_275_177 (mjF (D + 13)) 97 (nI M) v37 (nI M) (1 : Int32) hp39))))))))))))))))))))))))) else rV hp14 97 12 (bN (mjF (D + 13) 269 [.ref 97] hp14) (fun hp40 => some (none, hp40))))) else some (none, hp14))))) := by
      rw [e_275]
      unfold f_275 b_275_0
      rw [xV_97, v_type A, bI_s, i01, if_pos ty, xg_97_19, xa_108, if_pos (mj_in_nI hC (by decide)), nI_clamp (by omega), h108, if_neg (show ¬ nI kk = 24 from fun q => e24 ((nI_eq (a := kk) (b := 24) (by omega) (by omega)).mp q)), xg_97_63, h.2.1.2.2.1, xg_97_31, xg_97_63, h.2.1.2.2.1, xa_120, if_pos (mj_in_nI (by omega) (by decide)), nI_clamp (by omega), h120, idx400, ← hMe, xg_97_35, xs_124, if_pos (mj_in_nI hM (by decide)), nI_clamp (by omega), ← h1, xg_97_37, xV_97]
    cases ht : pType (mTT tx n) k with
    | inl e =>
      rw [ht] at Ty
      obtain ⟨s2, v, e2, z2, r2⟩ := Ty
      have z3 := z2.keep (s' := uI s2 126 (upd (s2.1 126) M v)) (offG.w (by unfold chRow; omega))
      refine ⟨_, _, ?_, z3, by omega, m1.tr ((offMm_E r2).tr (offG.w (by unfold chMm; omega)))⟩
      rw [body, e2, bI_s, xs_126, if_pos (mj_in_nI hM (by decide)), nI_clamp (by omega), xg_97_61, if_neg z3.pos]
    | inr c1 =>
      rw [ht] at Ty
      obtain ⟨s2, e2, a2, r2⟩ := Ty
      have hc1 := pType_le hN h0 hk ht
      have hlen := pType_len ht
      have tl : 4 * (tyL (mTT tx n) k).length + k + 1 ≤ c1 + 1 := by
        unfold tyL
        by_cases e : (mTT tx n k).1 = 10
        · rw [if_pos e]; show 4 * 0 + k + 1 ≤ c1 + 1; omega
        · rw [if_neg e]; have := hlen.2 e; show 4 * 1 + k + 1 ≤ c1 + 1; omega
      obtain ⟨v, hv⟩ : ∃ v, v = tyK (mTT tx n) k (800 * b + ks.length) := ⟨_, rfl⟩
      have e2' : mjF (D + 13) 277 [.ref 97] (mjW0 t1) = some (some (.int v), mjW0 s2) := by rw [e2, hv]; rfl
      have a2' : MR tx n b s2 c1 1 W os (ks ++ tyL (mTT tx n) k) := a2
      obtain ⟨t3, h3⟩ : ∃ t, t = uI s2 126 (upd (s2.1 126) M v) := ⟨_, rfl⟩
      have k3 : offG chRow chRowL s2 t3 := by rw [h3]; exact offG.w (by unfold chRow; omega)
      have m3 : offMm b M C s2 t3 := by rw [h3]; exact offG.w (by unfold chMm; omega)
      have a3 := a2'.keep k3
      have q3 : ∀ x j, x = 108 ∨ x = 120 ∨ x = 124 → t3.1 x j = t1.1 x j := fun x j e => by
        rw [h3, uI_ne _ _ _ _ (by omega), r2.1 x j (by unfold chE; omega)]
      have g108 : t3.1 108 C = nI kk := by rw [q3 108 C (by omega), q1 108 (by decide), h108]
      have g120 : t3.1 120 b = nI mm := by rw [q3 120 b (by omega), q1 120 (by decide), h120]
      have g124 : t3.1 124 M = nI C := by rw [q3 124 M (by omega), h1, uI_same]; exact if_pos rfl
      have g126 : t3.1 126 M = v := by rw [h3, uI_same]; exact if_pos rfl
      have m03 : offMm b M C s t3 := m1.tr ((offMm_E r2).tr m3)
      have S3 := (v_srt a3.at).2.1
      have ad1 : ∀ x, nI x + (1 : Int32) = nI (x + 1) := fun x => by rw [show (1 : Int32) = nI 1 from rfl, nI_add]
      have body2 : mjF (D + 14) 275 [.ref 97, .int (nI C)] (mjW0 s) = if (mTT tx n c1).1 = 3 then bN (mjF (D + 13) 262 [.ref 97] (mjW0 (mmS t3 b M C kk mm (mTT tx n c1).2.2.1 (mTT tx n c1).2.1))) (fun hp36 => gR hp36 97 12 36 (fun v37 => rV hp36 97 12 (bI (mjF (D + 13) 271 [.ref 97, .int (40 : Int32)] hp36) (fun v38 hp39 => (if v38 = 0 then b_275_177 (mjF (D + 13)) 97 (nI M) v37 (nI M) (0 : Int32) hp39 else b_275_177 (mjF (D + 13)) 97 (nI M) v37 (nI M) (1 : Int32) hp39))))) else bN (mjF (D + 13) 269 [.ref 97] (mjW0 t3)) (fun hp40 => some (none, hp40)) := by
        rw [body, e2', bI_s, xs_126, if_pos (mj_in_nI hM (by decide)), nI_clamp (by omega), ← h3, xg_97_61, a3.2.1.2.1, if_pos (show (0 : Int32) ≤ 0 by decide), xg_97_3]
        by_cases e3 : (mTT tx n c1).1 = 3
        · rw [if_pos e3, if_pos (S3.mpr e3), xg_97_31, xg_97_63, a3.2.1.2.2.1, xa_120, if_pos (mj_in_nI (by omega) (by decide)), nI_clamp (by omega), g120, ad1, xs_120, if_pos (mj_in_nI (by omega) (by decide)), nI_clamp (by omega), xg_97_19, xa_108, if_pos (mj_in_nI hC (by decide)), nI_clamp (by omega), uI_ne _ _ _ _ (by decide), g108, ad1, xs_108, if_pos (mj_in_nI hC (by decide)), nI_clamp (by omega), uI_ne _ _ _ _ (by decide), xg_97_43, xg_97_7, uI_l, uI_l, a3.at.2.2.2.2 (Or.inr e3), xs_132, if_pos (mj_in_nI hM (by decide)), nI_clamp (by omega), uI_l, uI_l, xg_97_38, xg_97_4, uL_i, uI_ne _ _ _ _ (by decide), uI_ne _ _ _ _ (by decide), a3.at.2.2.1, xs_127, if_pos (mj_in_nI hM (by decide)), nI_clamp (by omega), xg_97_39, xs_128, if_pos (mj_in_nI hM (by decide)), nI_clamp (by omega), xg_97_40, xs_129, if_pos (mj_in_nI hM (by decide)), nI_clamp (by omega), xg_97_42, xs_131, if_pos (mj_in_nI hM (by decide)), nI_clamp (by omega), xV_97]
          rfl
        · rw [if_neg e3, if_neg (fun q => e3 (S3.mp q)), xV_97]
      by_cases e3 : (mTT tx n c1).1 = 3
      · simp only [if_pos e3]
        have hl1 := lt_N hN h0 hc1 e3 (by decide)
        have ko := mmS_off (b := b) (M := M) (C := C) (kk := kk) (mm := mm) (s := t3) (nm := (mTT tx n c1).2.2.1) (x := (mTT tx n c1).2.1)
        have ka := mmS_at (b := b) (M := M) (C := C) (kk := kk) (mm := mm) (s := t3) (nm := (mTT tx n c1).2.2.1) (x := (mTT tx n c1).2.1)
        obtain ⟨t4, h4⟩ : ∃ t, t = mmS t3 b M C kk mm (mTT tx n c1).2.2.1 (mTT tx n c1).2.1 := ⟨_, rfl⟩
        rw [← h4] at ko ka body2
        have a4 := a3.keep ko.2
        obtain ⟨s5, e5, a5, r5, f5⟩ := m_next (d := D + 10) a4 (by rw [e3]; decide)
        have m05 : offMm b M C s s5 := m03.tr (ko.1.tr (offMm_E r5))
        have q5 : ∀ x j, x = 108 ∨ x = 120 ∨ (124 ≤ x ∧ x ≤ 131) → s5.1 x j = t4.1 x j := fun x j e => r5.1 x j (by unfold chE; omega)
        have l5 : ∀ j, s5.2.1 132 j = t4.2.1 132 j := fun j => r5.2.1 132 j (by unfold chEL; omega)
        have g5 : s5.1 108 C = nI (kk + 1) ∧ s5.1 120 b = nI (mm + 1) := ⟨by rw [q5 108 C (by omega), ka.2.1], by rw [q5 120 b (by omega), ka.1]⟩
        have rm5 : ∀ md : MD, md.2.1 = c1 → md.2.2.2.2.2.2.2 = v → RM0 (mTT tx n) s5 M C md := by
          intro md hd1 hd2
          refine ⟨?_, ?_, ?_, ?_⟩
          · rw [q5 124 M (by omega), ka.2.2.2.2.2.2.2.1, g124]
          · rw [q5 126 M (by omega), ka.2.2.2.2.2.2.2.2, g126, hd2]
          · rw [q5 127 M (by omega), ka.2.2.2.1, hd1]
          · rw [l5, ka.2.2.1, hd1]
        have p5 : RP (mTT tx n) s5 M [] := ⟨by rw [q5 128 M (by omega), ka.2.2.2.2.1]; rfl, fun j p hp => by cases hp⟩
        have n129 : s5.1 129 M = -1 := by rw [q5 129 M (by omega), ka.2.2.2.2.2.1]
        have n131 : s5.1 131 M = 0 := by rw [q5 131 M (by omega), ka.2.2.2.2.2.2.1]
        have body3 : mjF (D + 14) 275 [.ref 97, .int (nI C)] (mjW0 s) = if (mTT tx n (c1 + 1)).1 = 40 then b_275_177 (mjF (D + 13)) 97 (nI M) 125 (nI M) 1 (mjW0 s5) else b_275_177 (mjF (D + 13)) 97 (nI M) 125 (nI M) 0 (mjW0 s5) := by
          rw [body2, if_pos e3, e5, bN_s, xg_97_36, xV_97, v_sign a5.at (c := 40) (by decide), bI_s, i01]
        by_cases e59 : (mTT tx n (c1 + 1)).1 = 59
        · simp only [if_pos e59]
          have n40 : ¬ (mTT tx n (c1 + 1)).1 = 40 := by rw [e59]; decide
          have hl2 := lt_N hN h0 (show c1 + 1 ≤ N from hl1) e59 (by decide)
          obtain ⟨s6, e6, a6, g6, r6⟩ := (m_fld (D := D) (M := M) a5 hM trivial).1 e59
          obtain ⟨t5, ht5⟩ : ∃ t, t = uI s5 125 (upd (s5.1 125) M 0) := ⟨_, rfl⟩
          rw [← ht5] at r6
          have q6 : ∀ x j, x = 108 ∨ x = 120 ∨ x = 124 ∨ (126 ≤ x ∧ x ≤ 131) → s6.1 x j = s5.1 x j := fun x j e => by
            rw [r6.1 x j (by unfold chE; omega), ht5, uI_ne _ _ _ _ (by omega)]
          have l6 : ∀ j, s6.2.1 132 j = s5.2.1 132 j := fun j => by rw [r6.2.1 132 j (by unfold chEL; omega), ht5]; rfl
          have o5 : offMm b M C s5 t5 := by rw [ht5]; exact offG.w (by unfold chMm; omega)
          refine ⟨by show k < c1 + 2; omega, hl2, by show 6 * 0 ≤ _; omega, by show 4 * (tyL (mTT tx n) k).length ≤ c1 + 2 - k; omega, by omega, s6, W, by rw [body3, if_neg n40, e6], ?_, ⟨?_, ?_, ?_, ?_, ?_, by show 0 ≤ 6; omega⟩, by rw [q6 108 C (by omega), g5.1], by rw [q6 120 b (by omega), g5.2], m05.tr (o5.tr (offMm_E r6))⟩
          · show MR tx n b s6 (c1 + 1 + 1) 1 W (os ++ []) (ks ++ tyL (mTT tx n) k)
            rw [List.append_nil]; exact a6
          · have r := rm5 (k, c1, false, [], 0, 0, 0, tyK (mTT tx n) k (800 * b + ks.length)) rfl hv.symm
            unfold RM0 at r ⊢
            rw [q6 124 M (by omega), q6 126 M (by omega), q6 127 M (by omega), l6]; exact r
          · exact g6
          · exact ⟨by rw [q6 128 M (by omega)]; exact p5.1, fun j p hp => by cases hp⟩
          · rw [q6 129 M (by omega), n129]; rfl
          · rw [q6 131 M (by omega), n131]; rfl
        · simp only [if_neg e59]
          have KL4 : (ks ++ tyL (mTT tx n) k).length = ks.length + (tyL (mTT tx n) k).length := List.length_append
          by_cases e40 : (mTT tx n (c1 + 1)).1 = 40
          · have P := m_prm (D := D) (M := M) (C := C) h0 hN hM (show 1 < 12 by omega) (show c1 + 1 ≤ N from hl1) (show 6 * os.length ≤ 7 * (c1 + 1) by omega) (by rw [KL4]; omega) a5 p5 e40
            rw [KL4, ← Nat.add_assoc] at P
            cases hp : pParams (mTT tx n) (800 * b + ks.length + (tyL (mTT tx n) k).length) (c1 + 1) with
            | inl e =>
              rw [hp] at P
              obtain ⟨s6, x, e6, z6, hx, r6⟩ := P
              exact ⟨s6, x, by rw [body3, if_pos e40, e6], z6, hx, m05.tr r6⟩
            | inr y =>
              rw [hp] at P
              obtain ⟨i1, i2, i3, i4, s6, W6, e6, a6, p6, x1, x2, x3, x4, r6⟩ := P
              have KL6 : (ks ++ tyL (mTT tx n) k ++ y.2.2).length = ks.length + (tyL (mTT tx n) k).length + y.2.2.length := by rw [List.length_append, KL4]
              have Q := m_meth (D := D) (M := M) (C := C) h0 hN hM i3 (show 1 ≤ 12 by omega) i1 (show 6 * os.length ≤ 7 * y.1 by omega) i4 a6 p6
              rw [KL6, ← Nat.add_assoc, ← Nat.add_assoc] at Q
              show match (match prS (mTT tx n) (N + 1) 30 0 1 y.1 y.2.1.length (800 * b + ks.length + (tyL (mTT tx n) k).length + y.2.2.length) os.length with
                | .inl e => .inl e
                | .inr z => .inr (z.1, (k, c1, true, y.2.1, y.1, z.2.1, os.length, tyK (mTT tx n) k (800 * b + ks.length)), tyL (mTT tx n) k ++ y.2.2 ++ z.2.2.1, z.2.2.2.1 ++ [oOver], z.2.2.2.2) : (Nat × Nat) ⊕ PR) with
                | .inl e => _
                | .inr r => _
              cases hz : prS (mTT tx n) (N + 1) 30 0 1 y.1 y.2.1.length (800 * b + ks.length + (tyL (mTT tx n) k).length + y.2.2.length) os.length with
              | inl e =>
                rw [hz] at Q
                obtain ⟨s7, x, e7, z7, hx, r7⟩ := Q
                exact ⟨s7, x, by rw [body3, if_pos e40, e6, e7], z7, hx, m05.tr (r6.tr r7)⟩
              | inr z =>
                rw [hz] at Q
                obtain ⟨⟨b1, b2, b3, b4, b5⟩, s7, W7, e7, a7, p7, c129, c131, c125, c120, c108, cm, r7⟩ := Q
                rw [List.length_append] at i4
                refine ⟨by show k < z.1; omega, b2, ?_, ?_, by omega, s7, W7, by rw [body3, if_pos e40, e6, e7], ?_, ⟨?_, ?_, p7, ?_, ?_, i3⟩, ?_, ?_, m05.tr (r6.tr r7)⟩
                · show 6 * (z.2.2.2.1 ++ [oOver]).length ≤ 7 * (z.1 - k)
                  rw [List.length_append, List.length_singleton]; omega
                · show 4 * (tyL (mTT tx n) k ++ y.2.2 ++ z.2.2.1).length ≤ z.1 - k
                  have pl := pParams_len hp
                  rw [List.length_append, List.length_append]; omega
                · have ka' : ks ++ tyL (mTT tx n) k ++ y.2.2 ++ z.2.2.1 = ks ++ (tyL (mTT tx n) k ++ y.2.2 ++ z.2.2.1) := by simp
                  rw [ka'] at a7
                  exact a7
                · exact cm _ (x4 _ (rm5 (k, c1, true, y.2.1, y.1, z.2.1, os.length, tyK (mTT tx n) k (800 * b + ks.length)) rfl hv.symm))
                · rw [c125, x1]; rfl
                · rw [c129]; rfl
                · rw [c131]; rfl
                · rw [c108, x3, g5.1]
                · rw [c120, x2, g5.2]
          · have ep : pParams (mTT tx n) (800 * b + ks.length + (tyL (mTT tx n) k).length) (c1 + 1) = .inl (F2 (mTT tx n) (c1 + 1)) := by
              unfold pParams
              rw [if_neg e40]
            rw [ep]
            obtain ⟨s6, e6, z6, r6⟩ := (m_fld (D := D) (M := M) a5 hM trivial).2 e59
            refine ⟨s6, _, by rw [body3, if_neg e40, e6], z6, by omega, m05.tr ((offG.w (h := 125) (j := M) (v := 0) (by unfold chMm; omega)).tr (offMm_E r6))⟩
      · simp only [if_neg e3]
        refine ⟨_, _, by rw [body2, if_neg e3, m_wrong a3, bN_s], m_wz a3, by omega, m03.tr (offMm_E (bS_off _ _))⟩
end MJ95
