/-! ===== the reference: INS ===== -/
def RI (T : TT) (s : mjSt3) (C c0 k : Nat) : Prop := s.1 106 C = nI k ∧ ∀ j, j < k → s.2.1 113 (8 * C + j) = (T (c0 + 4 * j)).2.2.1 ∧ s.1 115 (8 * C + j) = (T (c0 + 4 * j)).2.1 ∧ s.2.1 114 (8 * C + j) = (T (c0 + 4 * j + 2)).2.2.1 ∧ s.1 116 (8 * C + j) = (T (c0 + 4 * j + 2)).2.1
def chIn (b C h j : Nat) : Prop := chE b h j ∨ (h = 106 ∧ j = C) ∨ ((h = 115 ∨ h = 116) ∧ 8 * C ≤ j ∧ j < 8 * C + 8)
def chInL (b C h j : Nat) : Prop := chEL b h j ∨ ((h = 113 ∨ h = 114) ∧ 8 * C ≤ j ∧ j < 8 * C + 8)
def offIn (b C : Nat) : mjSt3 → mjSt3 → Prop := offG (chIn b C) (chInL b C)
noncomputable def lI (D m C : Nat) (w : Int32) (s : mjSt3) : mjU := L_273_6 (mjF (D + 13)) m 97 (nI C) w (mjW0 s)
theorem L273_S (R : mjR) (m a : Nat) (x y : Int32) (hp : mjH) : L_273_6 R (m + 1) a x y hp = b_273_6 R (L_273_6 R m) a x y hp := rfl
section MJ97
variable {tx : Nat → Int32} {n b D k o N C : Nat} {s s' : mjSt3} {W : List WF} {os : List Row} {ks : List Nat}
theorem offIn_of (h : offE b s s') : offIn b C s s' := offG.mono h (fun _ _ q => Or.inl q) (fun _ _ q => Or.inl q)
theorem RI.off {T : TT} {c0 : Nat} (h : RI T s C c0 k) (r : offE b s s') : RI T s' C c0 k := by
  refine ⟨?_, fun j hj => ?_⟩
  · rw [r.1 106 C (by unfold chE; omega), h.1]
  · rw [r.2.1 113 _ (by unfold chEL; omega), r.1 115 _ (by unfold chE; omega), r.2.1 114 _ (by unfold chEL; omega), r.1 116 _ (by unfold chE; omega)]; exact h.2 j hj
/-- the first NAME of an IN, the second -/
def i1S (s : mjSt3) (C m : Nat) (nm : Int64) (x : Int32) : mjSt3 := uI (uL s 113 (vp_updL (s.2.1 113) (8 * C + m) nm)) 115 (upd (s.1 115) (8 * C + m) x)
def i2S (s : mjSt3) (C m : Nat) (nm : Int64) (x : Int32) : mjSt3 := uI (uI (uL s 114 (vp_updL (s.2.1 114) (8 * C + m) nm)) 116 (upd (s.1 116) (8 * C + m) x)) 106 (upd (s.1 106) C (nI (m + 1)))
theorem i1S_off {m : Nat} {nm : Int64} {x : Int32} (hm : m < 8) : offIn b C s (i1S s C m nm x) ∧ offG chRow chRowL s (i1S s C m nm x) := by
  unfold i1S
  exact ⟨(offG.wl (by unfold chInL; omega)).tr (offG.w (h := 115) (by unfold chIn; omega)), (offG.wl (by unfold chRowL; omega)).tr (offG.w (h := 115) (by unfold chRow; omega))⟩
theorem i2S_off {m : Nat} {nm : Int64} {x : Int32} (hm : m < 8) : offIn b C s (i2S s C m nm x) ∧ offG chRow chRowL s (i2S s C m nm x) := by
  unfold i2S
  exact ⟨((offG.wl (by unfold chInL; omega)).tr (offG.w (h := 116) (by unfold chIn; omega))).tr (offG.w (h := 106) (by unfold chIn; omega)), ((offG.wl (by unfold chRowL; omega)).tr (offG.w (h := 116) (by unfold chRow; omega))).tr (offG.w (h := 106) (by unfold chRow; omega))⟩
/-- what the first NAME leaves -/
def RI1 (T : TT) (s : mjSt3) (C c0 m : Nat) : Prop := RI T s C c0 m ∧ s.2.1 113 (8 * C + m) = (T (c0 + 4 * m)).2.2.1 ∧ s.1 115 (8 * C + m) = (T (c0 + 4 * m)).2.1
theorem RI1.off {T : TT} {c0 : Nat} (h : RI1 T s C c0 k) (r : offE b s s') : RI1 T s' C c0 k := by
  refine ⟨h.1.off r, ?_, ?_⟩
  · rw [r.2.1 113 _ (by unfold chEL; omega), h.2.1]
  · rw [r.1 115 _ (by unfold chE; omega), h.2.2]
theorem i1S_R {T : TT} {c0 m : Nat} (h : RI T s C c0 m) : RI1 T (i1S s C m (T (c0 + 4 * m)).2.2.1 (T (c0 + 4 * m)).2.1) C c0 m := by
  unfold i1S
  refine ⟨⟨?_, fun j hj => ?_⟩, ?_, ?_⟩
  · rw [uI_ne _ _ _ _ (by decide)]; exact h.1
  · obtain ⟨p1, p2, p3, p4⟩ := h.2 j hj
    have e2 : ¬ 8 * C + j = 8 * C + m := by omega
    refine ⟨?_, ?_, p3, ?_⟩
    · show vp_updL _ _ _ _ = _
      rw [updL_g, if_neg e2, p1]
    · simp only [uI_g, upd_g, uL_i]
      rw [if_pos trivial, if_neg e2, p2]
    · rw [uI_ne _ _ _ _ (by decide)]; exact p4
  · show vp_updL _ _ _ _ = _
    exact if_pos rfl
  · rw [uI_same]; exact if_pos rfl
theorem i2S_R {T : TT} {c0 m : Nat} (h : RI1 T s C c0 m) : RI T (i2S s C m (T (c0 + 4 * m + 2)).2.2.1 (T (c0 + 4 * m + 2)).2.1) C c0 (m + 1) := by
  unfold i2S
  refine ⟨?_, fun j hj => ?_⟩
  · rw [uI_same]; exact if_pos rfl
  · by_cases e : j = m
    · subst e
      refine ⟨?_, ?_, ?_, ?_⟩
      · exact h.2.1
      · rw [uI_ne _ _ _ _ (by decide), uI_ne _ _ _ _ (by decide)]; exact h.2.2
      · show vp_updL _ _ _ _ = _
        exact if_pos rfl
      · rw [uI_ne _ _ _ _ (by decide), uI_same]; exact if_pos rfl
    · obtain ⟨p1, p2, p3, p4⟩ := h.1.2 j (by omega)
      have e2 : ¬ 8 * C + j = 8 * C + m := by omega
      refine ⟨p1, ?_, ?_, ?_⟩
      · rw [uI_ne _ _ _ _ (by decide), uI_ne _ _ _ _ (by decide)]; exact p2
      · show vp_updL _ _ _ _ = _
        rw [updL_g, if_neg e2, p3]
      · rw [uI_ne _ _ _ _ (by decide), uI_same, upd_g, if_neg e2]; exact p4
/-- INS from one on -/
theorem ins_ok (h0 : (mTT tx n N).1 = 0) (hN : N ≤ 3000) (hC : C < 32) {c0 : Nat} : ∀ (f m : Nat) (s : mjSt3), f + m = 9 → m ≤ 8 → c0 + 4 * m ≤ N → MR tx n b s (c0 + 4 * m) o W os ks → RI (mTT tx n) s C c0 m → match pIns (mTT tx n) f m (c0 + 4 * m) with
    | .inl e => ∃ s' j, (∀ q, lI D (q + j) C 1 s = some (none, mjW0 s')) ∧ j ≤ f + 2 ∧ MZ (mTT tx n) b s' e os.length ∧ offIn b C s s'
    | .inr a => a.2 ≤ N ∧ a.2 + 1 = c0 + 4 * a.1 ∧ m < a.1 ∧ a.1 ≤ 8 ∧ ∃ s' j, (∀ q, lI D (q + j) C 1 s = some (none, mjW0 s')) ∧ j ≤ f + 2 ∧ MR tx n b s' a.2 o W os ks ∧ RI (mTT tx n) s' C c0 a.1 ∧ offIn b C s s'
  | 0, m, s, hf, hm, _, _, _ => by omega
  | f + 1, m, s, hf, hm, hc, a, p => by
    have A := a.at
    have S3 := (v_srt A).2.1
    have pre : ∀ q, lI D (q + 1) C 1 s = if (mTT tx n (c0 + 4 * m)).1 = 3 then (if m = 8 then bN (mjF (D + 13) 268 [.ref 97, .int 3, .int (mTT tx n (c0 + 4 * m)).2.1] (mjW0 s)) (fun hp8 => b_273_64 (mjF (D + 13)) (L_273_6 (mjF (D + 13)) q) 97 (nI C) (nI (8 * C + m)) hp8) else b_273_64 (mjF (D + 13)) (L_273_6 (mjF (D + 13)) q) 97 (nI C) (nI (8 * C + m)) (mjW0 s)) else bN (mjF (D + 13) 269 [.ref 97] (mjW0 s)) (fun hp9 => b_273_64 (mjF (D + 13)) (L_273_6 (mjF (D + 13)) q) 97 (nI C) (nI (8 * C + m)) hp9) := by
      intro q
      unfold lI
      rw [L273_S]
      unfold b_273_6
      rw [if_neg (show ¬ (1 : Int32) = 0 by decide), xg_97_61, a.2.1.2.1, if_pos rfl, xg_97_17, xa_106, if_pos (mj_in_nI hC (by decide)), nI_clamp (by omega), p.1, idxI, xg_97_3]
      by_cases e3 : (mTT tx n (c0 + 4 * m)).1 = 3
      · rw [if_pos e3, if_pos (S3.mpr e3), xg_97_17, xa_106, if_pos (mj_in_nI hC (by decide)), nI_clamp (by omega), p.1, xg_97_4, A.2.2.1, xV_97]
        by_cases e : m = 8
        · rw [if_pos e, if_pos (show nI m = 8 by rw [e]; rfl)]
        · rw [if_neg e, if_neg (show ¬ nI m = 8 from fun q => e ((nI_eq (a := m) (b := 8) (by omega) (by omega)).mp q))]
      · rw [if_neg e3, if_neg (fun q => e3 (S3.mp q)), xV_97]
    have bad : ∀ (T : TT) (e : Nat × Nat) (x q : Nat) (t : mjSt3), MZ T b t e x → b_273_64 (mjF (D + 13)) (L_273_6 (mjF (D + 13)) q) 97 (nI C) (nI (8 * C + m)) (mjW0 t) = some (none, mjW0 t) := by
      intro T e x q t z
      unfold b_273_64
      rw [xg_97_61, if_neg z.pos]
    unfold pIns
    by_cases e3 : (mTT tx n (c0 + 4 * m)).1 = 3
    · simp only [if_pos e3]
      by_cases e5 : m = 8
      · simp only [if_pos e5]
        have z1 := a.z (e := (3, c0 + 4 * m)) (Or.inr (Or.inr rfl))
        refine ⟨_, 1, fun q => ?_, by omega, z1, offIn_of (bS_off _ _)⟩
        rw [pre, if_pos e3, if_pos e5, v_fail a.2.1.2.1, bN_s]
        exact bad _ _ _ q _ z1
      · simp only [if_neg e5]
        have hl1 := lt_N hN h0 hc e3 (by decide)
        have ko := i1S_off (b := b) (C := C) (s := s) (nm := (mTT tx n (c0 + 4 * m)).2.2.1) (x := (mTT tx n (c0 + 4 * m)).2.1) (show m < 8 by omega)
        have p1 := i1S_R p
        obtain ⟨t1, h1⟩ : ∃ t, t = i1S s C m (mTT tx n (c0 + 4 * m)).2.2.1 (mTT tx n (c0 + 4 * m)).2.1 := ⟨_, rfl⟩
        rw [← h1] at ko p1
        have a1 := a.keep ko.2
        obtain ⟨s2, e2, a2, r2, f2⟩ := m_next (d := D + 10) a1 (by rw [e3]; decide)
        have p2 := p1.off r2
        have r02 : offIn b C s s2 := ko.1.tr (offIn_of r2)
        have w8 : mjF (D + 13) 266 [.ref 97, .int 4] (mjW0 s2) = _ := v_word (d := D + 12) a2.at (w := 3) (by decide)
        rw [show nI (3 + 5) = 8 from rfl] at w8
        have body : ∀ q, lI D (q + 1) C 1 s = if (mTT tx n (c0 + 4 * m + 1)).1 = 8 then bN (mjF (D + 13) 262 [.ref 97] (mjW0 s2)) (fun hp11 => gI hp11 97 12 3 (fun v12 => (if v12 = (2 : Int32) then gR hp11 97 12 25 (fun v13 => gL hp11 97 12 7 (fun v14 => sL hp11 v13 (nI (8 * C + m)) v14 (fun hp15 => gR hp15 97 12 27 (fun v16 => gI hp15 97 12 4 (fun v17 => sI hp15 v16 (nI (8 * C + m)) v17 (fun hp18 => gR hp18 97 12 17 (fun v19 => aI hp18 v19 (nI C) (fun v20 => sI hp18 v19 (nI C) (v20 + (1 : Int32)) (fun hp21 => rV hp21 97 12 (bN (mjF (D + 13) 262 [.ref 97] hp21) (fun hp22 => rV hp22 97 12 (bI (mjF (D + 13) 271 [.ref 97, .int (44 : Int32)] hp22) (fun v23 hp24 => (if v23 = 0 then b_273_175 (mjF (D + 13)) (L_273_6 (mjF (D + 13)) q) 97 (nI C) v23 hp24 else rV hp24 97 12 (bN (mjF (D + 13) 262 [.ref 97] hp24) (fun hp25 => b_273_175 (mjF (D + 13)) (L_273_6 (mjF (D + 13)) q) 97 (nI C) v23 hp25)))))))))))))))) else rV hp11 97 12 (bN (mjF (D + 13) 269 [.ref 97] hp11) (fun hp26 => some (none, hp26)))))) else bN (mjF (D + 13) 269 [.ref 97] (mjW0 s2)) (fun hp27 => some (none, hp27)) := by
          intro q
          rw [pre, if_pos e3, if_neg e5]
          unfold b_273_64
          rw [xg_97_61, a.2.1.2.1, if_pos (show (0 : Int32) ≤ 0 by decide), xg_97_24, xg_97_7, A.2.2.2.2 (Or.inr e3), xs_113, if_pos (mj_in_nI (by omega) (by decide)), nI_clamp (by omega), xg_97_26, xg_97_4, uL_i, A.2.2.1, xs_115, if_pos (mj_in_nI (by omega) (by decide)), nI_clamp (by omega), uL_i, xV_97]
          rw [show uI (uL s 113 (vp_updL (s.2.1 113) (8 * C + m) (mTT tx n (c0 + 4 * m)).2.2.1)) 115 (upd (s.1 115) (8 * C + m) (mTT tx n (c0 + 4 * m)).2.1) = t1 from h1.symm, e2, bN_s, xV_97, w8, bI_s, i01, xV_97, xV_97]
        by_cases e8 : (mTT tx n (c0 + 4 * m + 1)).1 = 8
        · simp only [if_pos e8]
          have hl2 := lt_N hN h0 (show c0 + 4 * m + 1 ≤ N from hl1) e8 (by decide)
          obtain ⟨s3, e3', a3, r3, f3⟩ := m_next (d := D + 10) a2 (by rw [e8]; decide)
          have p3 := p2.off r3
          have r03 : offIn b C s s3 := r02.tr (offIn_of r3)
          have A3 := a3.at
          have T3 := (v_srt A3).2.1
          by_cases g3 : (mTT tx n (c0 + 4 * m + 2)).1 = 3
          · simp only [if_pos g3]
            have hl3 := lt_N hN h0 (show c0 + 4 * m + 2 ≤ N from hl2) g3 (by decide)
            have ko3 := i2S_off (b := b) (C := C) (s := s3) (nm := (mTT tx n (c0 + 4 * m + 2)).2.2.1) (x := (mTT tx n (c0 + 4 * m + 2)).2.1) (show m < 8 by omega)
            have p4 := i2S_R p3
            obtain ⟨t4, h4⟩ : ∃ t, t = i2S s3 C m (mTT tx n (c0 + 4 * m + 2)).2.2.1 (mTT tx n (c0 + 4 * m + 2)).2.1 := ⟨_, rfl⟩
            rw [← h4] at ko3 p4
            have a4 := a3.keep ko3.2
            obtain ⟨s5, e5', a5, r5, f5⟩ := m_next (d := D + 10) a4 (by rw [g3]; decide)
            have p5 := p4.off r5
            have r05 : offIn b C s s5 := r03.tr (ko3.1.tr (offIn_of r5))
            have n106 : s3.1 106 C = nI m := p3.1.1
            have body2 : ∀ q, lI D (q + 1) C 1 s = if (mTT tx n (c0 + 4 * m + 3)).1 = 44 then bN (mjF (D + 13) 262 [.ref 97] (mjW0 s5)) (fun hp25 => L_273_6 (mjF (D + 13)) q 97 (nI C) 1 hp25) else lI D q C 0 s5 := by
              intro q
              rw [body, if_pos e8, e3', bN_s, xg_97_3, if_pos (T3.mpr g3), xg_97_25, xg_97_7, A3.2.2.2.2 (Or.inr g3), xs_114, if_pos (mj_in_nI (by omega) (by decide)), nI_clamp (by omega), xg_97_27, xg_97_4, uL_i, A3.2.2.1, xs_116, if_pos (mj_in_nI (by omega) (by decide)), nI_clamp (by omega), uL_i, xg_97_17, xa_106, if_pos (mj_in_nI hC (by decide)), nI_clamp (by omega), uI_ne _ _ _ _ (by decide), uL_i, n106, nI_1, xs_106, if_pos (mj_in_nI hC (by decide)), nI_clamp (by omega), uI_ne _ _ _ _ (by decide), uL_i, xV_97]
              rw [show uI (uI (uL s3 114 (vp_updL (s3.2.1 114) (8 * C + m) (mTT tx n (c0 + 4 * m + 2)).2.2.1)) 116 (upd (s3.1 116) (8 * C + m) (mTT tx n (c0 + 4 * m + 2)).2.1)) 106 (upd (s3.1 106) C (nI (m + 1))) = t4 from h4.symm, e5', bN_s, xV_97, v_sign a5.at (c := 44) (by decide), bI_s, i01]
              by_cases e : (mTT tx n (c0 + 4 * m + 3)).1 = 44
              · rw [if_pos e, if_pos e, if_pos e, xV_97]; rfl
              · rw [if_neg e, if_neg e, if_neg e]; rfl
            by_cases e44 : (mTT tx n (c0 + 4 * m + 3)).1 = 44
            · simp only [if_pos e44]
              have hl4 := lt_N hN h0 (show c0 + 4 * m + 3 ≤ N from hl3) e44 (by decide)
              obtain ⟨s6, e6, a6, r6, f6⟩ := m_next (d := D + 10) a5 (by rw [e44]; decide)
              have I := ins_ok h0 hN hC f (m + 1) s6 (by omega) (by omega) (show c0 + 4 * (m + 1) ≤ N by omega) a6 (p5.off r6)
              have step : ∀ q, lI D (q + 1) C 1 s = lI D q C 1 s6 := fun q => by rw [body2, if_pos e44, e6, bN_s]; rfl
              have r06 : offIn b C s s6 := r05.tr (offIn_of r6)
              rw [show c0 + 4 * (m + 1) = c0 + 4 * m + 4 by omega] at I
              cases hp : pIns (mTT tx n) f (m + 1) (c0 + 4 * m + 4) with
              | inl e =>
                rw [hp] at I
                obtain ⟨s7, j, g1, g2, g3, g4⟩ := I
                exact ⟨s7, j + 1, fun q => by rw [← Nat.add_assoc, step]; exact g1 q, by omega, g3, r06.tr g4⟩
              | inr y =>
                rw [hp] at I
                obtain ⟨i1, i2, i3, i4, s7, j, g1, g2, g3, g4, g5⟩ := I
                exact ⟨i1, i2, by omega, i4, s7, j + 1, fun q => by rw [← Nat.add_assoc, step]; exact g1 q, by omega, g3, g4, r06.tr g5⟩
            · simp only [if_neg e44]
              refine ⟨hl3, by show c0 + 4 * m + 3 + 1 = c0 + 4 * (m + 1); omega, by show m < m + 1; omega, by show m + 1 ≤ 8; omega, s5, 2, fun q => ?_, by omega, a5, p5, r05⟩
              rw [show q + 2 = (q + 1) + 1 by omega, body2, if_neg e44]
              unfold lI
              rw [L273_S]
              unfold b_273_6
              rw [if_pos rfl]
          · simp only [if_neg g3]
            refine ⟨_, 1, fun q => ?_, by omega, m_wz a3, r03.tr (offIn_of (bS_off _ _))⟩
            rw [body, if_pos e8, e3', bN_s, xg_97_3, if_neg (fun q => g3 (T3.mp q)), xV_97, m_wrong a3, bN_s]
        · simp only [if_neg e8]
          refine ⟨_, 1, fun q => ?_, by omega, m_wz a2, r02.tr (offIn_of (bS_off _ _))⟩
          rw [body, if_neg e8, m_wrong a2, bN_s]
    · simp only [if_neg e3]
      refine ⟨_, 1, fun q => ?_, by omega, m_wz a, offIn_of (bS_off _ _)⟩
      rw [pre, if_neg e3, m_wrong a, bN_s]
      exact bad _ _ _ q _ (m_wz a)
/-- readIns -/
theorem m_ins (h0 : (mTT tx n N).1 = 0) (hN : N ≤ 3000) (hC : C < 32) (hk : k ≤ N) (a : MR tx n b s k o W os ks) (p : s.1 106 C = 0) (e : (mTT tx n k).1 = 7) : match pIns (mTT tx n) 9 0 (k + 1) with
    | .inl e => ∃ s', mjF (D + 14) 273 [.ref 97, .int (nI C)] (mjW0 s) = some (none, mjW0 s') ∧ MZ (mTT tx n) b s' e os.length ∧ offIn b C s s'
    | .inr y => y.2 ≤ N ∧ y.2 + 1 = k + 1 + 4 * y.1 ∧ 0 < y.1 ∧ y.1 ≤ 8 ∧ ∃ s', mjF (D + 14) 273 [.ref 97, .int (nI C)] (mjW0 s) = some (none, mjW0 s') ∧ MR tx n b s' y.2 o W os ks ∧ RI (mTT tx n) s' C (k + 1) y.1 ∧ offIn b C s s' := by
  have hmj := mjN_v
  have hl := lt_N hN h0 hk e (by decide)
  obtain ⟨s1, e1, a1, r1, f1⟩ := m_next (d := D + 10) a (by rw [e]; decide)
  have p1 : RI (mTT tx n) s1 C (k + 1) 0 := ⟨by rw [r1.1 106 C (by unfold chE; omega), p]; rfl, fun j hj => by omega⟩
  have I := ins_ok (D := D) (c0 := k + 1) h0 hN hC 9 0 s1 rfl (by omega) hl a1 p1
  have pre : mjF (D + 14) 273 [.ref 97, .int (nI C)] (mjW0 s) = lI D mjN C 1 s1 := by
    rw [e_273]
    unfold f_273 b_273_0
    rw [xV_97, e1, bN_s]
    rfl
  rw [show k + 1 + 4 * 0 = k + 1 from rfl] at I
  cases hp : pIns (mTT tx n) 9 0 (k + 1) with
  | inl e =>
    rw [hp] at I
    obtain ⟨s2, j, g1, g2, g3, g4⟩ := I
    refine ⟨s2, ?_, g3, (offIn_of r1).tr g4⟩
    rw [pre, show mjN = (mjN - j) + j by omega]; exact g1 _
  | inr y =>
    rw [hp] at I
    obtain ⟨i1, i2, i3, i4, s2, j, g1, g2, g3, g4, g5⟩ := I
    refine ⟨i1, i2, i3, i4, s2, ?_, g3, g4, (offIn_of r1).tr g5⟩
    rw [pre, show mjN = (mjN - j) + j by omega]; exact g1 _
end MJ97
