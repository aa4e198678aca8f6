/-! ===== the reference: PARAMS ===== -/
/-- PARAMS of the MEMBER at M -/
def RP (T : TT) (s : mjSt3) (M : Nat) (l : List (Nat × Nat × Int32)) : Prop := s.1 128 M = nI l.length ∧ ∀ j p, l[j]? = some p → s.1 133 (6 * M + j) = p.2.2 ∧ s.1 134 (6 * M + j) = (T p.2.1).2.1 ∧ s.2.1 135 (6 * M + j) = (T p.2.1).2.2.1
def chPa (b M h j : Nat) : Prop := chE b h j ∨ (h = 128 ∧ j = M) ∨ ((h = 133 ∨ h = 134) ∧ 6 * M ≤ j ∧ j < 6 * M + 6)
def chPaL (b M h j : Nat) : Prop := chEL b h j ∨ (h = 135 ∧ 6 * M ≤ j ∧ j < 6 * M + 6)
def offPa (b M : Nat) : mjSt3 → mjSt3 → Prop := offG (chPa b M) (chPaL b M)
noncomputable def lP (D m M : Nat) (w : Int32) (s : mjSt3) : mjU := L_275_222 (mjF (D + 13)) m 97 (nI M) w (mjW0 s)
theorem L275_S (R : mjR) (m a : Nat) (x y : Int32) (hp : mjH) : L_275_222 R (m + 1) a x y hp = b_275_222 R (L_275_222 R m) a x y hp := rfl
section MJ93
variable {tx : Nat → Int32} {n b D k o N M : Nat} {s s' : mjSt3} {W : List WF} {os : List Row} {ks : List Nat}
theorem offPa_of (h : offE b s s') : offPa b M s s' := offG.mono h (fun _ _ q => Or.inl q) (fun _ _ q => Or.inl q)
theorem RP.off {T : TT} {l : List (Nat × Nat × Int32)} (h : RP T s M l) (r : offE b s s') : RP T s' M l := by
  refine ⟨?_, fun j p hp => ?_⟩
  · rw [r.1 128 M (by unfold chE; omega), h.1]
  · rw [r.1 133 _ (by unfold chE; omega), r.1 134 _ (by unfold chE; omega), r.2.1 135 _ (by unfold chEL; omega)]
    exact h.2 j p hp
theorem idx6 {m : Nat} : (6 : Int32) * nI M + nI m = nI (6 * M + m) := by
  rw [show (6 : Int32) = nI 6 from rfl, pk_mul, nI_add]
/-- a PARAM is put -/
def paS (s : mjSt3) (M len : Nat) (nm : Int64) (at' : Int32) : mjSt3 := uI (uI (uL s 135 (vp_updL (s.2.1 135) (6 * M + len) nm)) 134 (upd (s.1 134) (6 * M + len) at')) 128 (upd (s.1 128) M (nI (len + 1)))
theorem paS_RP {T : TT} {l : List (Nat × Nat × Int32)} {v : Int32} {z a : Nat} (h : RP T s M l) : RP T (paS (uI s 133 (upd (s.1 133) (6 * M + l.length) v)) M l.length (T a).2.2.1 (T a).2.1) M (l ++ [(z, a, v)]) := by
  unfold paS
  refine ⟨?_, fun j p hp => ?_⟩
  · simp [uI_g, upd_g]
  · by_cases e : j = l.length
    · subst e
      rw [List.getElem?_append_right (Nat.le_refl _), Nat.sub_self] at hp
      have ep : (z, a, v) = p := by simpa using hp
      subst ep
      refine ⟨?_, ?_, ?_⟩
      · simp [uI_g, upd_g, uL_i]
      · simp [uI_g, upd_g, uL_i]
      · show vp_updL _ _ _ _ = _
        exact if_pos rfl
    · have hj : j < l.length := by
        have := (List.getElem?_eq_some_iff.mp hp).1
        rw [List.length_append, List.length_singleton] at this; omega
      rw [List.getElem?_append_left hj] at hp
      obtain ⟨p1, p2, p3⟩ := h.2 j p hp
      have e2 : ¬ 6 * M + j = 6 * M + l.length := by omega
      refine ⟨?_, ?_, ?_⟩
      · simp only [uI_g, upd_g, uL_i]
        rw [if_neg (by decide), if_neg (by decide), if_pos trivial, if_neg e2, p1]
      · simp only [uI_g, upd_g, uL_i]
        rw [if_neg (by decide), if_pos trivial, if_neg e2, if_neg (by decide), p2]
      · show vp_updL _ _ _ _ = _
        rw [updL_g, if_neg e2]
        exact p3
theorem paS_off {len : Nat} {nm : Int64} {x : Int32} (hl : len < 6) : offPa b M s (paS s M len nm x) ∧ offG chRow chRowL s (paS s M len nm x) := by
  unfold paS
  refine ⟨((offG.wl (by unfold chPaL; omega)).tr (offG.w (h := 134) (by unfold chPa; omega))).tr (offG.w (h := 128) (by unfold chPa; omega)), ((offG.wl (by unfold chRowL; omega)).tr (offG.w (h := 134) (by unfold chRow; omega))).tr (offG.w (h := 128) (by unfold chRow; omega))⟩
/-- bad, and out -/
theorem p_bad {T : TT} {e : Nat × Nat} {x q : Nat} (z : MZ T b s e x) : b_275_260 (mjF (D + 13)) (L_275_222 (mjF (D + 13)) q) 97 (nI M) (mjW0 s) = some (none, mjW0 s) := by
  unfold b_275_260
  rw [xg_97_61, if_neg z.pos]
/-- no more PARAMS: the ) -/
theorem p_close (h : MR tx n b s k (o + 1) W os ks) : ((mTT tx n k).1 = 41 → ∃ s', (∀ q, lP D (q + 1) M 0 s = b_275_380 (mjF (D + 13)) 97 (nI M) (mjW0 s')) ∧ MR tx n b s' (k + 1) o W os ks ∧ offE b s s') ∧ (¬ (mTT tx n k).1 = 41 → ∃ s', (∀ q, lP D (q + 1) M 0 s = some (none, mjW0 s')) ∧ MZ (mTT tx n) b s' (F2 (mTT tx n) k) os.length ∧ offE b s s') := by
  have pre : ∀ q, lP D (q + 1) M 0 s = bN (mjF (D + 13) 278 [.ref 97, .int 41] (mjW0 s)) (fun hp2 => b_275_380 (mjF (D + 13)) 97 (nI M) hp2) := by
    intro q
    unfold lP
    rw [L275_S]
    unfold b_275_222
    rw [if_pos rfl, xg_97_61, h.2.1.2.1, if_pos rfl, xV_97]
  refine ⟨fun e => ?_, fun e => ?_⟩
  · obtain ⟨s1, e1, a1, r1, f1⟩ := m_closes (d := D + 9) h (c := 41) (by decide) e
    exact ⟨s1, fun q => by rw [pre, e1, bN_s], a1, r1⟩
  · have e1 := m_closesB (d := D + 9) h (c := 41) (by decide) e
    refine ⟨_, fun q => ?_, m_wz h, bS_off _ _⟩
    rw [pre, e1, bN_s]
    unfold b_275_380
    rw [xg_97_61, if_neg (m_wz h).pos]
/-- PARAMS from one on -/
theorem par_ok (h0 : (mTT tx n N).1 = 0) (hN : N ≤ 3000) (hM : M < 800) {ks0 : List Nat} : ∀ (f : Nat) (z : PP) (s : mjSt3) (W : List WF), f + z.2.1.length = 7 → z.2.1.length ≤ 6 → z.1 ≤ N → 4 * (ks0 ++ z.2.2).length ≤ z.1 → MR tx n b s z.1 (o + 1) W os (ks0 ++ z.2.2) → RP (mTT tx n) s M z.2.1 → match pPars (mTT tx n) (800 * b + ks0.length) f z with
    | .inl e => ∃ s' j, (∀ q, lP D (q + j) M 1 s = some (none, mjW0 s')) ∧ j ≤ f + 2 ∧ MZ (mTT tx n) b s' e os.length ∧ offPa b M s s'
    | .inr y => y.1 ≤ N ∧ z.1 + 3 ≤ y.1 ∧ y.2.1.length ≤ 6 ∧ 4 * (ks0 ++ y.2.2).length ≤ y.1 ∧ ∃ s' j W', (∀ q, lP D (q + j) M 1 s = b_275_380 (mjF (D + 13)) 97 (nI M) (mjW0 s')) ∧ j ≤ f + 2 ∧ MR tx n b s' y.1 o W' os (ks0 ++ y.2.2) ∧ RP (mTT tx n) s' M y.2.1 ∧ offPa b M s s'
  | 0, z, s, W, hf, h6, _, _, _, _ => by omega
  | f + 1, z, s, W, hf, h6, hz, hks, a, p => by
    have A := a.at
    have pre : ∀ q, lP D (q + 1) M 1 s = if tyS (mTT tx n z.1).1 = true then (if z.2.1.length = 6 then bN (mjF (D + 13) 268 [.ref 97, .int 3, .int (mTT tx n z.1).2.1] (mjW0 s)) (fun hp8 => b_275_260 (mjF (D + 13)) (L_275_222 (mjF (D + 13)) q) 97 (nI M) hp8) else b_275_260 (mjF (D + 13)) (L_275_222 (mjF (D + 13)) q) 97 (nI M) (mjW0 s)) else bN (mjF (D + 13) 269 [.ref 97] (mjW0 s)) (fun hp9 => b_275_260 (mjF (D + 13)) (L_275_222 (mjF (D + 13)) q) 97 (nI M) hp9) := by
      intro q
      unfold lP
      rw [L275_S]
      unfold b_275_222
      rw [if_neg (show ¬ (1 : Int32) = 0 by decide), xV_97, v_type A, bI_s, i01, xg_97_39, xa_128, if_pos (mj_in_nI hM (by decide)), nI_clamp (by omega), p.1, xg_97_4, A.2.2.1, xV_97, xV_97]
      by_cases e : z.2.1.length = 6
      · rw [if_pos e, if_pos (show nI z.2.1.length = 6 by rw [e]; rfl)]
      · rw [if_neg e, if_neg (show ¬ nI z.2.1.length = 6 from fun q => e ((nI_eq (a := z.2.1.length) (b := 6) (by omega) (by omega)).mp q))]
    unfold pPars
    by_cases ty : tyS (mTT tx n z.1).1 = true
    · by_cases e6 : z.2.1.length = 6
      · rw [if_pos (show tyS (mTT tx n z.1).1 = true ∧ z.2.1.length = 6 from ⟨ty, e6⟩)]
        have z1 := a.z (e := (3, z.1)) (Or.inr (Or.inr rfl))
        refine ⟨_, 1, fun q => ?_, by omega, z1, offPa_of (bS_off _ _)⟩
        rw [pre, if_pos ty, if_pos e6, v_fail a.2.1.2.1, bN_s]
        exact p_bad z1
      · rw [if_neg (show ¬ (tyS (mTT tx n z.1).1 = true ∧ z.2.1.length = 6) from fun q => e6 q.2)]
        have kl : (ks0 ++ z.2.2).length = ks0.length + z.2.2.length := List.length_append
        have Ty := m_type (d := D + 6) a (by omega)
        have body : ∀ q, lP D (q + 1) M 1 s = bI (mjF (D + 13) 277 [.ref 97] (mjW0 s)) (fun v5 hp6 => sI hp6 133 (nI (6 * M + z.2.1.length)) v5 (fun hp7 => gI hp7 97 12 61 (fun v8 => (if v8 ≤ 0 then gI hp7 97 12 3 (fun v9 => (if v9 = (2 : Int32) then gR hp7 97 12 46 (fun v10 => gL hp7 97 12 7 (fun v11 => sL hp7 v10 (nI (6 * M + z.2.1.length)) v11 (fun hp12 => gR hp12 97 12 45 (fun v13 => gI hp12 97 12 4 (fun v14 => sI hp12 v13 (nI (6 * M + z.2.1.length)) v14 (fun hp15 => gR hp15 97 12 39 (fun v16 => aI hp15 v16 (nI M) (fun v17 => sI hp15 v16 (nI M) (v17 + (1 : Int32)) (fun hp18 => rV hp18 97 12 (bN (mjF (D + 13) 262 [.ref 97] hp18) (fun hp19 => rV hp19 97 12 (bI (mjF (D + 13) 271 [.ref 97, .int (44 : Int32)] hp19) (fun v20 hp21 => (if v20 = 0 then b_275_364 (mjF (D + 13)) (L_275_222 (mjF (D + 13)) q) 97 (nI M) v20 hp21 else rV hp21 97 12 (bN (mjF (D + 13) 262 [.ref 97] hp21) (fun hp22 => b_275_364 (mjF (D + 13)) (L_275_222 (mjF (D + 13)) q) 97 (nI M) v20 hp22)))))))))))))))) else rV hp7 97 12 (bN (mjF (D + 13) 269 [.ref 97] hp7) (fun hp23 => some (none, hp23))))) else some (none, hp7))))) := by
          intro q
          rw [pre, if_pos ty, if_neg e6]
          unfold b_275_260
          rw [xg_97_61, a.2.1.2.1, if_pos (show (0 : Int32) ≤ 0 by decide), xg_97_39, xa_128, if_pos (mj_in_nI hM (by decide)), nI_clamp (by omega), p.1, xg_97_44, xV_97, idx6]
        cases ht : pType (mTT tx n) z.1 with
        | inl e =>
          rw [ht] at Ty
          obtain ⟨s1, v, e1, z1, r1⟩ := Ty
          have rk : offG chRow chRowL s1 (uI s1 133 (upd (s1.1 133) (6 * M + z.2.1.length) v)) := offG.w (by unfold chRow; omega)
          have z2 := z1.keep rk
          refine ⟨_, 1, fun q => ?_, by omega, z2, (offPa_of r1).tr (offG.w (by unfold chPa; omega))⟩
          rw [body, e1, bI_s, xs_133, if_pos (mj_in_nI (by omega) (by decide)), nI_clamp (by omega), xg_97_61, if_neg z2.pos]
        | inr c1 =>
          rw [ht] at Ty
          obtain ⟨s1, e1, a1, r1⟩ := Ty
          have hc1 := pType_le hN h0 hz ht
          have hlen := pType_len ht
          obtain ⟨v, hv⟩ : ∃ v, v = tyK (mTT tx n) z.1 (800 * b + ks0.length + z.2.2.length) := ⟨_, rfl⟩
          have e1' : mjF (D + 13) 277 [.ref 97] (mjW0 s) = some (some (.int v), mjW0 s1) := by
            rw [e1, hv, kl, ← Nat.add_assoc]; rfl
          have a1' : MR tx n b s1 c1 (o + 1) W os (ks0 ++ (z.2.2 ++ tyL (mTT tx n) z.1)) := by
            rw [← List.append_assoc]; exact a1
          have p1 := p.off r1
          obtain ⟨t2, h2⟩ : ∃ t, t = uI s1 133 (upd (s1.1 133) (6 * M + z.2.1.length) v) := ⟨_, rfl⟩
          have k2 : offG chRow chRowL s1 t2 := by rw [h2]; exact offG.w (by unfold chRow; omega)
          have o2 : offPa b M s1 t2 := by rw [h2]; exact offG.w (by unfold chPa; omega)
          have a2 := a1'.keep k2
          have S3 := (v_srt a2.at).2.1
          have r02 : offPa b M s t2 := (offPa_of r1).tr o2
          have n128 : t2.1 128 M = nI z.2.1.length := by rw [h2, uI_ne _ _ _ _ (by decide)]; exact p1.1
          have body2 : ∀ q, lP D (q + 1) M 1 s = if (mTT tx n c1).1 = 3 then (bN (mjF (D + 13) 262 [.ref 97] (mjW0 (paS t2 M z.2.1.length (mTT tx n c1).2.2.1 (mTT tx n c1).2.1))) (fun hp19 => rV hp19 97 12 (bI (mjF (D + 13) 271 [.ref 97, .int (44 : Int32)] hp19) (fun v20 hp21 => (if v20 = 0 then b_275_364 (mjF (D + 13)) (L_275_222 (mjF (D + 13)) q) 97 (nI M) v20 hp21 else rV hp21 97 12 (bN (mjF (D + 13) 262 [.ref 97] hp21) (fun hp22 => b_275_364 (mjF (D + 13)) (L_275_222 (mjF (D + 13)) q) 97 (nI M) v20 hp22))))))) else bN (mjF (D + 13) 269 [.ref 97] (mjW0 t2)) (fun hp23 => some (none, hp23)) := by
            intro q
            rw [body, e1', bI_s, xs_133, if_pos (mj_in_nI (by omega) (by decide)), nI_clamp (by omega), ← h2, xg_97_61, a2.2.1.2.1, if_pos (show (0 : Int32) ≤ 0 by decide), xg_97_3]
            by_cases h3 : (mTT tx n c1).1 = 3
            · rw [if_pos h3, if_pos (S3.mpr h3), xg_97_46, xg_97_7, a2.at.2.2.2.2 (Or.inr h3), xs_135, if_pos (mj_in_nI (by omega) (by decide)), nI_clamp (by omega), xg_97_45, xg_97_4, uL_i, a2.at.2.2.1, xs_134, if_pos (mj_in_nI (by omega) (by decide)), nI_clamp (by omega), uL_i, xg_97_39, xa_128, if_pos (mj_in_nI hM (by decide)), nI_clamp (by omega), uI_ne _ _ _ _ (by decide), uL_i, n128, xs_128, if_pos (mj_in_nI hM (by decide)), nI_clamp (by omega), uI_ne _ _ _ _ (by decide), uL_i, nI_1, xV_97]
              rfl
            · rw [if_neg h3, if_neg (fun q => h3 (S3.mp q)), xV_97]
          by_cases h3 : (mTT tx n c1).1 = 3
          · simp only [if_pos h3]
            have hl1 := lt_N hN h0 hc1 h3 (by decide)
            have ko := paS_off (b := b) (M := M) (s := t2) (nm := (mTT tx n c1).2.2.1) (x := (mTT tx n c1).2.1) (show z.2.1.length < 6 by omega)
            have a3 := a2.keep ko.2
            have p3 : RP (mTT tx n) (paS t2 M z.2.1.length (mTT tx n c1).2.2.1 (mTT tx n c1).2.1) M (z.2.1 ++ [(z.1, c1, v)]) := by rw [h2]; exact paS_RP p1
            obtain ⟨s4, e4, a4, r4, f4⟩ := m_next (d := D + 10) a3 (by rw [h3]; decide)
            have p4 := p3.off r4
            have r04 : offPa b M s s4 := r02.tr (ko.1.tr (offPa_of r4))
            have body3 : ∀ q, lP D (q + 1) M 1 s = if (mTT tx n (c1 + 1)).1 = 44 then bN (mjF (D + 13) 262 [.ref 97] (mjW0 s4)) (fun hp22 => L_275_222 (mjF (D + 13)) q 97 (nI M) 1 hp22) else lP D q M 0 s4 := by
              intro q
              rw [body2, if_pos h3, e4, bN_s, xV_97, v_sign a4.at (c := 44) (by decide), bI_s, i01]
              by_cases e : (mTT tx n (c1 + 1)).1 = 44
              · rw [if_pos e, if_pos e, if_pos e, xV_97]; rfl
              · rw [if_neg e, if_neg e, if_neg e]; rfl
            have pl : (z.2.1 ++ [(z.1, c1, v)]).length = z.2.1.length + 1 := by rw [List.length_append, List.length_singleton]
            have tl : 4 * (tyL (mTT tx n) z.1).length + z.1 + 1 ≤ c1 + 1 := by
              unfold tyL
              by_cases e : (mTT tx n z.1).1 = 10
              · rw [if_pos e]; show 4 * 0 + z.1 + 1 ≤ c1 + 1; omega
              · rw [if_neg e]; have := hlen.2 e; show 4 * 1 + z.1 + 1 ≤ c1 + 1; omega
            have kk : 4 * (ks0 ++ (z.2.2 ++ tyL (mTT tx n) z.1)).length ≤ c1 := by
              rw [List.length_append, List.length_append]; omega
            by_cases h44 : (mTT tx n (c1 + 1)).1 = 44
            · simp only [if_pos h44]
              have hl2 := lt_N hN h0 (show c1 + 1 ≤ N from hl1) h44 (by decide)
              obtain ⟨s5, e5, a5, r5, f5⟩ := m_next (d := D + 10) a4 (by rw [h44]; decide)
              have I := par_ok h0 hN hM f (c1 + 2, z.2.1 ++ [(z.1, c1, v)], z.2.2 ++ tyL (mTT tx n) z.1) s5 W (by show f + (z.2.1 ++ [(z.1, c1, v)]).length = 7; omega) (by show (z.2.1 ++ [(z.1, c1, v)]).length ≤ 6; omega) hl2 (by show 4 * (ks0 ++ (z.2.2 ++ tyL (mTT tx n) z.1)).length ≤ c1 + 2; omega) a5 (p4.off r5)
              rw [hv] at I
              have step : ∀ q, lP D (q + 1) M 1 s = lP D q M 1 s5 := fun q => by rw [body3, if_pos h44, e5, bN_s]; rfl
              have r05 : offPa b M s s5 := r04.tr (offPa_of r5)
              cases hp : pPars (mTT tx n) (800 * b + ks0.length) f (c1 + 2, z.2.1 ++ [(z.1, c1, tyK (mTT tx n) z.1 (800 * b + ks0.length + z.2.2.length))], z.2.2 ++ tyL (mTT tx n) z.1) with
              | inl e =>
                rw [hp] at I
                obtain ⟨s6, j, g1, g2, g3, g4⟩ := I
                exact ⟨s6, j + 1, fun q => by rw [← Nat.add_assoc, step]; exact g1 q, by omega, g3, r05.tr g4⟩
              | inr y =>
                rw [hp] at I
                obtain ⟨i1, i2, i3, i4, s6, j, W6, g1, g2, g3, g4, g5⟩ := I
                have i2' : c1 + 2 + 3 ≤ y.1 := i2
                exact ⟨i1, by omega, i3, i4, s6, j + 1, W6, fun q => by rw [← Nat.add_assoc, step]; exact g1 q, by omega, g3, g4, r05.tr g5⟩
            · simp only [if_neg h44]
              obtain ⟨c41, cn⟩ := p_close (D := D) (M := M) a4
              by_cases h41 : (mTT tx n (c1 + 1)).1 = 41
              · simp only [if_pos h41]
                have hl2 := lt_N hN h0 (show c1 + 1 ≤ N from hl1) h41 (by decide)
                obtain ⟨s5, e5, a5, r5⟩ := c41 h41
                refine ⟨hl2, by show z.1 + 3 ≤ c1 + 2; omega, by rw [← hv]; show (z.2.1 ++ [(z.1, c1, v)]).length ≤ 6; omega, by show 4 * (ks0 ++ (z.2.2 ++ tyL (mTT tx n) z.1)).length ≤ c1 + 2; omega, s5, 2, W, fun q => ?_, by omega, a5, ?_, r04.tr (offPa_of r5)⟩
                · rw [show q + 2 = (q + 1) + 1 by omega, body3, if_neg h44, e5]
                · rw [← hv]; exact p4.off r5
              · simp only [if_neg h41]
                obtain ⟨s5, e5, z5, r5⟩ := cn h41
                exact ⟨s5, 2, fun q => by rw [show q + 2 = (q + 1) + 1 by omega, body3, if_neg h44, e5], by omega, z5, r04.tr (offPa_of r5)⟩
          · simp only [if_neg h3]
            refine ⟨_, 1, fun q => ?_, by omega, m_wz a2, r02.tr (offPa_of (bS_off _ _))⟩
            rw [body2, if_neg h3, m_wrong a2, bN_s]
    · rw [if_neg (show ¬ (tyS (mTT tx n z.1).1 = true ∧ z.2.1.length = 6) from fun q => ty q.1)]
      have n10 : ¬ (mTT tx n z.1).1 = 10 := fun e => ty (by rw [e]; decide)
      have n2 : ¬ (mTT tx n z.1).1 = 2 := fun e => ty (by rw [e]; decide)
      have ep : pType (mTT tx n) z.1 = .inl (F2 (mTT tx n) z.1) := by
        unfold pType pKind
        rw [if_neg n10, if_neg n2]
      rw [ep]
      refine ⟨_, 1, fun q => ?_, by omega, m_wz a, offPa_of (bS_off _ _)⟩
      rw [pre, if_neg ty, m_wrong a, bN_s]
      exact p_bad (m_wz a)
end MJ93
