section
/-! ===== the reference: INS ===== -/
def RI (T : TT) (s : mjSt3) (C c0 k : Nat) : Prop := s.1 106 C = nI k ∧ ∀ j, j < k → s.2.1 113 (8 * C + j) = (T (c0 + 4 * j)).2.2.1 ∧ s.1 115 (8 * C + j) = (T (c0 + 4 * j)).2.1 ∧ s.2.1 114 (8 * C + j) = (T (c0 + 4 * j + 2)).2.2.1 ∧ s.1 116 (8 * C + j) = (T (c0 + 4 * j + 2)).2.1
def chIn (b C h j : Nat) : Prop := chE b h j ∨ (h = 106 ∧ j = C) ∨ ((h = 115 ∨ h = 116) ∧ 8 * C ≤ j ∧ j < 8 * C + 8)
def chInL (b C h j : Nat) : Prop := chEL b h j ∨ ((h = 113 ∨ h = 114) ∧ 8 * C ≤ j ∧ j < 8 * C + 8)
def offIn (b C : Nat) : mjSt3 → mjSt3 → Prop := offG (chIn b C) (chInL b C)
noncomputable def lI (D m C : Nat) (w : Int32) (s : mjSt3) : mjU := L_273_6 (mjF (D + 13)) m 97 (nI C) w (mjW0 s)
theorem L273_S (R : mjR) (m a : Nat) (x y : Int32) (hp : mjH) : L_273_6 R (m + 1) a x y hp = b_273_6 R (L_273_6 R m) a x y hp := rfl
section MJ97
variable {tx : Nat → Int32} {n b D k o N C : Nat} {s s' : mjSt3} {W : List WF} {os : List Row} {ks : List Nat}
theorem offIn_of (h : offE b s s') : offIn b C s s' := offG.mono h (fun _ _ q => Or.inl q) (fun _ _ q => Or.inl q)
theorem RI.off {T : TT} {c0 : Nat} (h : RI T s C c0 k) (r : offE b s s') : RI T s' C c0 k := by
  refine ⟨?_, fun j hj => ?_⟩
  · rw [r.1 106 C (by unfold chE; omega), h.1]
  · rw [r.2.1 113 _ (by unfold chEL; omega), r.1 115 _ (by unfold chE; omega), r.2.1 114 _ (by unfold chEL; omega), r.1 116 _ (by unfold chE; omega)]; exact h.2 j hj
/-- the first NAME of an IN, the second -/
def i1S (s : mjSt3) (C m : Nat) (nm : Int64) (x : Int32) : mjSt3 := uI (uL s 113 (vp_updL (s.2.1 113) (8 * C + m) nm)) 115 (upd (s.1 115) (8 * C + m) x)
def i2S (s : mjSt3) (C m : Nat) (nm : Int64) (x : Int32) : mjSt3 := uI (uI (uL s 114 (vp_updL (s.2.1 114) (8 * C + m) nm)) 116 (upd (s.1 116) (8 * C + m) x)) 106 (upd (s.1 106) C (nI (m + 1)))
theorem i1S_off {m : Nat} {nm : Int64} {x : Int32} (hm : m < 8) : offIn b C s (i1S s C m nm x) ∧ offG chRow chRowL s (i1S s C m nm x) := by
  unfold i1S
  exact ⟨(offG.wl (by unfold chInL; omega)).tr (offG.w (h := 115) (by unfold chIn; omega)), (offG.wl (by unfold chRowL; omega)).tr (offG.w (h := 115) (by unfold chRow; omega))⟩
theorem i2S_off {m : Nat} {nm : Int64} {x : Int32} (hm : m < 8) : offIn b C s (i2S s C m nm x) ∧ offG chRow chRowL s (i2S s C m nm x) := by
  unfold i2S
  exact ⟨((offG.wl (by unfold chInL; omega)).tr (offG.w (h := 116) (by unfold chIn; omega))).tr (offG.w (h := 106) (by unfold chIn; omega)), ((offG.wl (by unfold chRowL; omega)).tr (offG.w (h := 116) (by unfold chRow; omega))).tr (offG.w (h := 106) (by unfold chRow; omega))⟩
/-- what the first NAME leaves -/
def RI1 (T : TT) (s : mjSt3) (C c0 m : Nat) : Prop := RI T s C c0 m ∧ s.2.1 113 (8 * C + m) = (T (c0 + 4 * m)).2.2.1 ∧ s.1 115 (8 * C + m) = (T (c0 + 4 * m)).2.1
theorem RI1.off {T : TT} {c0 : Nat} (h : RI1 T s C c0 k) (r : offE b s s') : RI1 T s' C c0 k := by
  refine ⟨h.1.off r, ?_, ?_⟩
  · rw [r.2.1 113 _ (by unfold chEL; omega), h.2.1]
  · rw [r.1 115 _ (by unfold chE; omega), h.2.2]
theorem i1S_R {T : TT} {c0 m : Nat} (h : RI T s C c0 m) : RI1 T (i1S s C m (T (c0 + 4 * m)).2.2.1 (T (c0 + 4 * m)).2.1) C c0 m := by
  unfold i1S
  refine ⟨⟨?_, fun j hj => ?_⟩, ?_, ?_⟩
  · rw [uI_ne _ _ _ _ (by decide)]; exact h.1
  · obtain ⟨p1, p2, p3, p4⟩ := h.2 j hj
    have e2 : ¬ 8 * C + j = 8 * C + m := by omega
    refine ⟨?_, ?_, p3, ?_⟩
    · show vp_updL _ _ _ _ = _
      rw [updL_g, if_neg e2, p1]
    · simp only [uI_g, upd_g, uL_i]
      rw [if_pos trivial, if_neg e2, p2]
    · rw [uI_ne _ _ _ _ (by decide)]; exact p4
  · show vp_updL _ _ _ _ = _
    exact if_pos rfl
  · rw [uI_same]; exact if_pos rfl
theorem i2S_R {T : TT} {c0 m : Nat} (h : RI1 T s C c0 m) : RI T (i2S s C m (T (c0 + 4 * m + 2)).2.2.1 (T (c0 + 4 * m + 2)).2.1) C c0 (m + 1) := by
  unfold i2S
  refine ⟨?_, fun j hj => ?_⟩
  · rw [uI_same]; exact if_pos rfl
  · by_cases e : j = m
    · subst e
      refine ⟨?_, ?_, ?_, ?_⟩
      · exact h.2.1
      · rw [uI_ne _ _ _ _ (by decide), uI_ne _ _ _ _ (by decide)]; exact h.2.2
      · show vp_updL _ _ _ _ = _
        exact if_pos rfl
      · rw [uI_ne _ _ _ _ (by decide), uI_same]; exact if_pos rfl
    · obtain ⟨p1, p2, p3, p4⟩ := h.1.2 j (by omega)
      have e2 : ¬ 8 * C + j = 8 * C + m := by omega
      refine ⟨p1, ?_, ?_, ?_⟩
      · rw [uI_ne _ _ _ _ (by decide), uI_ne _ _ _ _ (by decide)]; exact p2
      · show vp_updL _ _ _ _ = _
        rw [updL_g, if_neg e2, p3]
      · rw [uI_ne _ _ _ _ (by decide), uI_same, upd_g, if_neg e2]; exact p4
/-- INS from one on -/
theorem ins_ok (h0 : (mTT tx n N).1 = 0) (hN : N ≤ 3000) (hC : C < 32) {c0 : Nat} : ∀ (f m : Nat) (s : mjSt3), f + m = 9 → m ≤ 8 → c0 + 4 * m ≤ N → MR tx n b s (c0 + 4 * m) o W os ks → RI (mTT tx n) s C c0 m → match pIns (mTT tx n) f m (c0 + 4 * m) with
    | .inl e => ∃ s' j, (∀ q, lI D (q + j) C 1 s = some (none, mjW0 s')) ∧ j ≤ f + 2 ∧ MZ (mTT tx n) b s' e os.length ∧ offIn b C s s'
    | .inr a => a.2 ≤ N ∧ a.2 + 1 = c0 + 4 * a.1 ∧ m < a.1 ∧ a.1 ≤ 8 ∧ ∃ s' j, (∀ q, lI D (q + j) C 1 s = some (none, mjW0 s')) ∧ j ≤ f + 2 ∧ MR tx n b s' a.2 o W os ks ∧ RI (mTT tx n) s' C c0 a.1 ∧ offIn b C s s'
  | 0, m, s, hf, hm, _, _, _ => by omega
  | f + 1, m, s, hf, hm, hc, a, p => by
    have A := a.at
    have S3 := (v_srt A).2.1
    have pre : ∀ q, lI D (q + 1) C 1 s = if (mTT tx n (c0 + 4 * m)).1 = 3 then (if m = 8 then bN (mjF (D + 13) 268 [.ref 97, .int 3, .int (mTT tx n (c0 + 4 * m)).2.1] (mjW0 s)) (fun hp8 => b_273_64 (mjF (D + 13)) (L_273_6 (mjF (D + 13)) q) 97 (nI C) (nI (8 * C + m)) hp8) else b_273_64 (mjF (D + 13)) (L_273_6 (mjF (D + 13)) q) 97 (nI C) (nI (8 * C + m)) (mjW0 s)) else bN (mjF (D + 13) 269 [.ref 97] (mjW0 s)) (fun hp9 => b_273_64 (mjF (D + 13)) (L_273_6 (mjF (D + 13)) q) 97 (nI C) (nI (8 * C + m)) hp9) := by
      intro q
      unfold lI
      rw [L273_S]
      unfold b_273_6
      rw [if_neg (show ¬ (1 : Int32) = 0 by decide), xg_97_61, a.2.1.2.1, if_pos rfl, xg_97_17, xa_106, if_pos (mj_in_nI hC (by decide)), nI_clamp (by omega), p.1, idxI, xg_97_3]
      by_cases e3 : (mTT tx n (c0 + 4 * m)).1 = 3
      · rw [if_pos e3, if_pos (S3.mpr e3), xg_97_17, xa_106, if_pos (mj_in_nI hC (by decide)), nI_clamp (by omega), p.1, xg_97_4, A.2.2.1, xV_97]
        by_cases e : m = 8
        · rw [if_pos e, if_pos (show nI m = 8 by rw [e]; rfl)]
        · rw [if_neg e, if_neg (show ¬ nI m = 8 from fun q => e ((nI_eq (a := m) (b := 8) (by omega) (by omega)).mp q))]
      · rw [if_neg e3, if_neg (fun q => e3 (S3.mp q)), xV_97]
    have bad : ∀ (T : TT) (e : Nat × Nat) (x q : Nat) (t : mjSt3), MZ T b t e x → b_273_64 (mjF (D + 13)) (L_273_6 (mjF (D + 13)) q) 97 (nI C) (nI (8 * C + m)) (mjW0 t) = some (none, mjW0 t) := by
      intro T e x q t z
      unfold b_273_64
      rw [xg_97_61, if_neg z.pos]
    unfold pIns
    by_cases e3 : (mTT tx n (c0 + 4 * m)).1 = 3
    · simp only [if_pos e3]
      by_cases e5 : m = 8
      · simp only [if_pos e5]
        have z1 := a.z (e := (3, c0 + 4 * m)) (Or.inr (Or.inr rfl))
        refine ⟨_, 1, fun q => ?_, by omega, z1, offIn_of (bS_off _ _)⟩
        rw [pre, if_pos e3, if_pos e5, v_fail a.2.1.2.1, bN_s]
        exact bad _ _ _ q _ z1
      · simp only [if_neg e5]
        have hl1 := lt_N hN h0 hc e3 (by decide)
        have ko := i1S_off (b := b) (C := C) (s := s) (nm := (mTT tx n (c0 + 4 * m)).2.2.1) (x := (mTT tx n (c0 + 4 * m)).2.1) (show m < 8 by omega)
        have p1 := i1S_R p
        obtain ⟨t1, h1⟩ : ∃ t, t = i1S s C m (mTT tx n (c0 + 4 * m)).2.2.1 (mTT tx n (c0 + 4 * m)).2.1 := ⟨_, rfl⟩
        rw [← h1] at ko p1
        have a1 := a.keep ko.2
        obtain ⟨s2, e2, a2, r2, f2⟩ := m_next (d := D + 10) a1 (by rw [e3]; decide)
        have p2 := p1.off r2
        have r02 : offIn b C s s2 := ko.1.tr (offIn_of r2)
        have w8 : mjF (D + 13) 266 [.ref 97, .int 4] (mjW0 s2) = _ := v_word (d := D + 12) a2.at (w := 3) (by decide)
        rw [show nI (3 + 5) = 8 from rfl] at w8
        have body : ∀ q, lI D (q + 1) C 1 s = if (mTT tx n (c0 + 4 * m + 1)).1 = 8 then bN (mjF (D + 13) 262 [.ref 97] (mjW0 s2)) (fun hp11 => gI hp11 97 12 3 (fun v12 => (if v12 = (2 : Int32) then gR hp11 97 12 25 (fun v13 => gL hp11 97 12 7 (fun v14 => sL hp11 v13 (nI (8 * C + m)) v14 (fun hp15 => gR hp15 97 12 27 (fun v16 => gI hp15 97 12 4 (fun v17 => sI hp15 v16 (nI (8 * C + m)) v17 (fun hp18 => gR hp18 97 12 17 (fun v19 => aI hp18 v19 (nI C) (fun v20 => sI hp18 v19 (nI C) (v20 + (1 : Int32)) (fun hp21 => rV hp21 97 12 (bN (mjF (D + 13) 262 [.ref 97] hp21) (fun hp22 => rV hp22 97 12 (bI (mjF (D + 13) 271 [.ref 97, .int (44 : Int32)] hp22) (fun v23 hp24 => (if v23 = 0 then b_273_175 (mjF (D + 13)) (L_273_6 (mjF (D + 13)) q) 97 (nI C) v23 hp24 else rV hp24 97 12 (bN (mjF (D + 13) 262 [.ref 97] hp24) (fun hp25 => b_273_175 (mjF (D + 13)) (L_273_6 (mjF (D + 13)) q) 97 (nI C) v23 hp25)))))))))))))))) else rV hp11 97 12 (bN (mjF (D + 13) 269 [.ref 97] hp11) (fun hp26 => some (none, hp26)))))) else bN (mjF (D + 13) 269 [.ref 97] (mjW0 s2)) (fun hp27 => some (none, hp27)) := by
          intro q
          rw [pre, if_pos e3, if_neg e5]
          unfold b_273_64
          rw [xg_97_61, a.2.1.2.1, if_pos (show (0 : Int32) ≤ 0 by decide), xg_97_24, xg_97_7, A.2.2.2.2 (Or.inr e3), xs_113, if_pos (mj_in_nI (by omega) (by decide)), nI_clamp (by omega), xg_97_26, xg_97_4, uL_i, A.2.2.1, xs_115, if_pos (mj_in_nI (by omega) (by decide)), nI_clamp (by omega), uL_i, xV_97]
          rw [show uI (uL s 113 (vp_updL (s.2.1 113) (8 * C + m) (mTT tx n (c0 + 4 * m)).2.2.1)) 115 (upd (s.1 115) (8 * C + m) (mTT tx n (c0 + 4 * m)).2.1) = t1 from h1.symm, e2, bN_s, xV_97, w8, bI_s, i01, xV_97, xV_97]
        by_cases e8 : (mTT tx n (c0 + 4 * m + 1)).1 = 8
        · simp only [if_pos e8]
          have hl2 := lt_N hN h0 (show c0 + 4 * m + 1 ≤ N from hl1) e8 (by decide)
          obtain ⟨s3, e3', a3, r3, f3⟩ := m_next (d := D + 10) a2 (by rw [e8]; decide)
          have p3 := p2.off r3
          have r03 : offIn b C s s3 := r02.tr (offIn_of r3)
          have A3 := a3.at
          have T3 := (v_srt A3).2.1
          by_cases g3 : (mTT tx n (c0 + 4 * m + 2)).1 = 3
          · simp only [if_pos g3]
            have hl3 := lt_N hN h0 (show c0 + 4 * m + 2 ≤ N from hl2) g3 (by decide)
            have ko3 := i2S_off (b := b) (C := C) (s := s3) (nm := (mTT tx n (c0 + 4 * m + 2)).2.2.1) (x := (mTT tx n (c0 + 4 * m + 2)).2.1) (show m < 8 by omega)
            have p4 := i2S_R p3
            obtain ⟨t4, h4⟩ : ∃ t, t = i2S s3 C m (mTT tx n (c0 + 4 * m + 2)).2.2.1 (mTT tx n (c0 + 4 * m + 2)).2.1 := ⟨_, rfl⟩
            rw [← h4] at ko3 p4
            have a4 := a3.keep ko3.2
            obtain ⟨s5, e5', a5, r5, f5⟩ := m_next (d := D + 10) a4 (by rw [g3]; decide)
            have p5 := p4.off r5
            have r05 : offIn b C s s5 := r03.tr (ko3.1.tr (offIn_of r5))
            have n106 : s3.1 106 C = nI m := p3.1.1
            have body2 : ∀ q, lI D (q + 1) C 1 s = if (mTT tx n (c0 + 4 * m + 3)).1 = 44 then bN (mjF (D + 13) 262 [.ref 97] (mjW0 s5)) (fun hp25 => L_273_6 (mjF (D + 13)) q 97 (nI C) 1 hp25) else lI D q C 0 s5 := by
              intro q
              rw [body, if_pos e8, e3', bN_s, xg_97_3, if_pos (T3.mpr g3), xg_97_25, xg_97_7, A3.2.2.2.2 (Or.inr g3), xs_114, if_pos (mj_in_nI (by omega) (by decide)), nI_clamp (by omega), xg_97_27, xg_97_4, uL_i, A3.2.2.1, xs_116, if_pos (mj_in_nI (by omega) (by decide)), nI_clamp (by omega), uL_i, xg_97_17, xa_106, if_pos (mj_in_nI hC (by decide)), nI_clamp (by omega), uI_ne _ _ _ _ (by decide), uL_i, n106, nI_1, xs_106, if_pos (mj_in_nI hC (by decide)), nI_clamp (by omega), uI_ne _ _ _ _ (by decide), uL_i, xV_97]
              rw [show uI (uI (uL s3 114 (vp_updL (s3.2.1 114) (8 * C + m) (mTT tx n (c0 + 4 * m + 2)).2.2.1)) 116 (upd (s3.1 116) (8 * C + m) (mTT tx n (c0 + 4 * m + 2)).2.1)) 106 (upd (s3.1 106) C (nI (m + 1))) = t4 from h4.symm, e5', bN_s, xV_97, v_sign a5.at (c := 44) (by decide), bI_s, i01]
              by_cases e : (mTT tx n (c0 + 4 * m + 3)).1 = 44
              · rw [if_pos e, if_pos e, if_pos e, xV_97]; rfl
              · rw [if_neg e, if_neg e, if_neg e]; rfl
            by_cases e44 : (mTT tx n (c0 + 4 * m + 3)).1 = 44
            · simp only [if_pos e44]
              have hl4 := lt_N hN h0 (show c0 + 4 * m + 3 ≤ N from hl3) e44 (by decide)
              obtain ⟨s6, e6, a6, r6, f6⟩ := m_next (d := D + 10) a5 (by rw [e44]; decide)
              have I := ins_ok h0 hN hC f (m + 1) s6 (by omega) (by omega) (show c0 + 4 * (m + 1) ≤ N by omega) a6 (p5.off r6)
              have step : ∀ q, lI D (q + 1) C 1 s = lI D q C 1 s6 := fun q => by rw [body2, if_pos e44, e6, bN_s]; rfl
              have r06 : offIn b C s s6 := r05.tr (offIn_of r6)
              rw [show c0 + 4 * (m + 1) = c0 + 4 * m + 4 by omega] at I
              cases hp : pIns (mTT tx n) f (m + 1) (c0 + 4 * m + 4) with
              | inl e =>
                rw [hp] at I
                obtain ⟨s7, j, g1, g2, g3, g4⟩ := I
                exact ⟨s7, j + 1, fun q => by rw [← Nat.add_assoc, step]; exact g1 q, by omega, g3, r06.tr g4⟩
              | inr y =>
                rw [hp] at I
                obtain ⟨i1, i2, i3, i4, s7, j, g1, g2, g3, g4, g5⟩ := I
                exact ⟨i1, i2, by omega, i4, s7, j + 1, fun q => by rw [← Nat.add_assoc, step]; exact g1 q, by omega, g3, g4, r06.tr g5⟩
            · simp only [if_neg e44]
              refine ⟨hl3, by show c0 + 4 * m + 3 + 1 = c0 + 4 * (m + 1); omega, by show m < m + 1; omega, by show m + 1 ≤ 8; omega, s5, 2, fun q => ?_, by omega, a5, p5, r05⟩
              rw [show q + 2 = (q + 1) + 1 by omega, body2, if_neg e44]
              unfold lI
              rw [L273_S]
              unfold b_273_6
              rw [if_pos rfl]
          · simp only [if_neg g3]
            refine ⟨_, 1, fun q => ?_, by omega, m_wz a3, r03.tr (offIn_of (bS_off _ _))⟩
            rw [body, if_pos e8, e3', bN_s, xg_97_3, if_neg (fun q => g3 (T3.mp q)), xV_97, m_wrong a3, bN_s]
        · simp only [if_neg e8]
          refine ⟨_, 1, fun q => ?_, by omega, m_wz a2, r02.tr (offIn_of (bS_off _ _))⟩
          rw [body, if_neg e8, m_wrong a2, bN_s]
    · simp only [if_neg e3]
      refine ⟨_, 1, fun q => ?_, by omega, m_wz a, offIn_of (bS_off _ _)⟩
      rw [pre, if_neg e3, m_wrong a, bN_s]
      exact bad _ _ _ q _ (m_wz a)
/-- readIns -/
theorem m_ins (h0 : (mTT tx n N).1 = 0) (hN : N ≤ 3000) (hC : C < 32) (hk : k ≤ N) (a : MR tx n b s k o W os ks) (p : s.1 106 C = 0) (e : (mTT tx n k).1 = 7) : match pIns (mTT tx n) 9 0 (k + 1) with
    | .inl e => ∃ s', mjF (D + 14) 273 [.ref 97, .int (nI C)] (mjW0 s) = some (none, mjW0 s') ∧ MZ (mTT tx n) b s' e os.length ∧ offIn b C s s'
    | .inr y => y.2 ≤ N ∧ y.2 + 1 = k + 1 + 4 * y.1 ∧ 0 < y.1 ∧ y.1 ≤ 8 ∧ ∃ s', mjF (D + 14) 273 [.ref 97, .int (nI C)] (mjW0 s) = some (none, mjW0 s') ∧ MR tx n b s' y.2 o W os ks ∧ RI (mTT tx n) s' C (k + 1) y.1 ∧ offIn b C s s' := by
  have hmj := mjN_v
  have hl := lt_N hN h0 hk e (by decide)
  obtain ⟨s1, e1, a1, r1, f1⟩ := m_next (d := D + 10) a (by rw [e]; decide)
  have p1 : RI (mTT tx n) s1 C (k + 1) 0 := ⟨by rw [r1.1 106 C (by unfold chE; omega), p]; rfl, fun j hj => by omega⟩
  have I := ins_ok (D := D) (c0 := k + 1) h0 hN hC 9 0 s1 rfl (by omega) hl a1 p1
  have pre : mjF (D + 14) 273 [.ref 97, .int (nI C)] (mjW0 s) = lI D mjN C 1 s1 := by
    rw [e_273]
    unfold f_273 b_273_0
    rw [xV_97, e1, bN_s]
    rfl
  rw [show k + 1 + 4 * 0 = k + 1 from rfl] at I
  cases hp : pIns (mTT tx n) 9 0 (k + 1) with
  | inl e =>
    rw [hp] at I
    obtain ⟨s2, j, g1, g2, g3, g4⟩ := I
    refine ⟨s2, ?_, g3, (offIn_of r1).tr g4⟩
    rw [pre, show mjN = (mjN - j) + j by omega]; exact g1 _
  | inr y =>
    rw [hp] at I
    obtain ⟨i1, i2, i3, i4, s2, j, g1, g2, g3, g4, g5⟩ := I
    refine ⟨i1, i2, i3, i4, s2, ?_, g3, g4, (offIn_of r1).tr g5⟩
    rw [pre, show mjN = (mjN - j) + j by omega]; exact g1 _
end MJ97
end
section
/-! ===== the reference: a CLASS's head ===== -/
def RH (T : TT) (b : Nat) (s : mjSt3) (ks : List Nat) (C fm : Nat) (hd : HD) : Prop := s.2.1 101 C = (T hd.1).2.2.1 ∧ s.1 102 C = (T hd.1).2.1 ∧ RN T s C (hd.1 + 2) hd.2.1 ∧ (hd.2.2.1 = 0 → s.1 103 C = -1 ∧ s.1 105 C = -1) ∧ (¬ hd.2.2.1 = 0 → s.1 103 C = (T (hd.2.2.1 - 1)).2.1 ∧ ∃ i, ks[i]? = some hd.2.2.1 ∧ s.1 105 C = nI (800 * b + i)) ∧ RI T s C hd.2.2.2.1 hd.2.2.2.2 ∧ s.1 107 C = nI fm ∧ hd.2.1 ≤ 5 ∧ hd.2.2.2.2 ≤ 8
def chCl (b C fm h j : Nat) : Prop := chS b h j ∨ (h = 97 ∧ (j = 65 ∨ j = 66)) ∨ ((h = 100 ∨ h = 120) ∧ j = b) ∨ (102 ≤ h ∧ h ≤ 108 ∧ j = C) ∨ (h = 112 ∧ 5 * C ≤ j ∧ j < 5 * C + 5) ∨ ((h = 115 ∨ h = 116) ∧ 8 * C ≤ j ∧ j < 8 * C + 8) ∨ (124 ≤ h ∧ h ≤ 131 ∧ 400 * b + fm ≤ j ∧ j < 400 * b + 400) ∨ ((h = 133 ∨ h = 134) ∧ 6 * (400 * b + fm) ≤ j ∧ j < 6 * (400 * b + 400))
def chClL (b C fm h j : Nat) : Prop := chEL b h j ∨ (h = 101 ∧ j = C) ∨ (h = 111 ∧ 5 * C ≤ j ∧ j < 5 * C + 5) ∨ ((h = 113 ∨ h = 114) ∧ 8 * C ≤ j ∧ j < 8 * C + 8) ∨ (h = 132 ∧ 400 * b + fm ≤ j ∧ j < 400 * b + 400) ∨ (h = 135 ∧ 6 * (400 * b + fm) ≤ j ∧ j < 6 * (400 * b + 400))
def offCl (b C fm : Nat) : mjSt3 → mjSt3 → Prop := offG (chCl b C fm) (chClL b C fm)
def chAb (b C h j : Nat) : Prop := chE b h j ∨ ((h = 103 ∨ h = 105) ∧ j = C)
section MJ98
variable {tx : Nat → Int32} {n b D k o N C ci fm : Nat} {s s' : mjSt3} {W : List WF} {os : List Row} {ks : List Nat}
theorem offCl_S (h : offS b s s') : offCl b C fm s s' := offG.mono h (fun _ _ q => Or.inl q) (fun _ _ q => Or.inl q)
theorem offCl_E (h : offE b s s') : offCl b C fm s s' := offCl_S (offS_of h)
theorem offCl_Na (h : offNa b C s s') : offCl b C fm s s' := offG.mono h (fun x y q => by
  rcases q with q | q | q
  · exact Or.inl (Or.inl q)
  · exact Or.inr (Or.inr (Or.inr (Or.inl ⟨by omega, by omega, q.2⟩)))
  · exact Or.inr (Or.inr (Or.inr (Or.inr (Or.inl q))))) (fun x y q => by
  rcases q with q | q
  · exact Or.inl q
  · exact Or.inr (Or.inr (Or.inl q)))
theorem offCl_In (h : offIn b C s s') : offCl b C fm s s' := offG.mono h (fun x y q => by
  rcases q with q | q | q
  · exact Or.inl (Or.inl q)
  · exact Or.inr (Or.inr (Or.inr (Or.inl ⟨by omega, by omega, q.2⟩)))
  · exact Or.inr (Or.inr (Or.inr (Or.inr (Or.inr (Or.inl q)))))) (fun x y q => by
  rcases q with q | q
  · exact Or.inl q
  · exact Or.inr (Or.inr (Or.inr (Or.inl q))))
theorem offCl_Ab (h : offG (chAb b C) (chEL b) s s') : offCl b C fm s s' := offG.mono h (fun x y q => by
  rcases q with q | q
  · exact Or.inl (Or.inl q)
  · exact Or.inr (Or.inr (Or.inr (Or.inl ⟨by omega, by omega, q.2⟩)))) (fun x y q => Or.inl q)
/-- the { -/
theorem c_open (h : MR tx n b s k 0 W os ks) : ((mTT tx n k).1 = 123 → ∃ s', b_267_358 (mjF (D + 14)) 97 (nI C) (mjW0 s) = L_267_371 (mjF (D + 14)) mjN 97 (nI C) (mjW0 s') ∧ MR tx n b s' (k + 1) 1 W os ks ∧ offE b s s') ∧ (¬ (mTT tx n k).1 = 123 → ∃ s', b_267_358 (mjF (D + 14)) 97 (nI C) (mjW0 s) = some (none, mjW0 s') ∧ MZ (mTT tx n) b s' (F2 (mTT tx n) k) os.length ∧ offE b s s') := by
  unfold b_267_358
  rw [xg_97_61, h.2.1.2.1, if_pos rfl, xV_97]
  refine ⟨fun e => ?_, fun e => ?_⟩
  · obtain ⟨s1, e1, a1, r1, f1⟩ := m_opens (d := D + 10) h (c := 123) (by decide) e (by omega)
    exact ⟨s1, by rw [e1, bN_s], a1, r1⟩
  · have e1 := m_opens2 (d := D + 10) h (c := 123) (by decide) e
    exact ⟨_, by rw [e1, bN_s]; exact cl_bad (m_wz h), m_wz h, bS_off _ _⟩
/-- where -/
theorem c_where (h0 : (mTT tx n N).1 = 0) (hN : N ≤ 3000) (hC : C < 32) (hk : k ≤ N) (h : MR tx n b s k o W os ks) (p : s.1 106 C = 0) : match pWhere (mTT tx n) k with
    | .inl e => ∃ s', b_267_338 (mjF (D + 14)) 97 (nI C) (mjW0 s) = some (none, mjW0 s') ∧ MZ (mTT tx n) b s' e os.length ∧ offIn b C s s'
    | .inr w => w.2 ≤ N ∧ k ≤ w.2 ∧ w.1 ≤ 8 ∧ ∃ s', b_267_338 (mjF (D + 14)) 97 (nI C) (mjW0 s) = b_267_358 (mjF (D + 14)) 97 (nI C) (mjW0 s') ∧ MR tx n b s' w.2 o W os ks ∧ RI (mTT tx n) s' C (k + 1) w.1 ∧ offIn b C s s' := by
  have w7 : mjF (D + 14) 266 [.ref 97, .int 3] (mjW0 s) = _ := v_word (d := D + 13) h.at (w := 2) (by decide)
  rw [show nI (2 + 5) = 7 from rfl] at w7
  have pre : b_267_338 (mjF (D + 14)) 97 (nI C) (mjW0 s) = if (mTT tx n k).1 = 7 then bN (mjF (D + 14) 273 [.ref 97, .int (nI C)] (mjW0 s)) (fun hp4 => b_267_358 (mjF (D + 14)) 97 (nI C) hp4) else b_267_358 (mjF (D + 14)) 97 (nI C) (mjW0 s) := by
    unfold b_267_338
    rw [xg_97_61, h.2.1.2.1, if_pos rfl, xV_97, w7, bI_s, i01, xV_97]
  unfold pWhere
  by_cases e : (mTT tx n k).1 = 7
  · rw [if_pos e]
    have I := m_ins (D := D) h0 hN hC hk h p e
    cases hp : pIns (mTT tx n) 9 0 (k + 1) with
    | inl e2 =>
      rw [hp] at I
      obtain ⟨s1, e1, z1, r1⟩ := I
      exact ⟨s1, by rw [pre, if_pos e, e1, bN_s, cl_bad3 z1], z1, r1⟩
    | inr y =>
      rw [hp] at I
      obtain ⟨i1, i2, i3, i4, s1, e1, a1, p1, r1⟩ := I
      exact ⟨i1, by omega, i4, s1, by rw [pre, if_pos e, e1, bN_s], a1, p1, r1⟩
  · rw [if_neg e]
    exact ⟨hk, Nat.le_refl _, by show 0 ≤ 8; omega, s, by rw [pre, if_neg e], h, ⟨by rw [p]; rfl, fun j hj => absurd (show j < 0 from hj) (by omega)⟩, offG.rf⟩
/-- is -/
theorem c_above (h0 : (mTT tx n N).1 = 0) (hN : N ≤ 3000) (hC : C < 32) (hk : k ≤ N) (hks : ks.length < 790) (h : MR tx n b s k o W os ks) : match pAbove (mTT tx n) k with
    | .inl e => ∃ s', b_267_299 (mjF (D + 14)) 97 (nI C) (mjW0 s) = some (none, mjW0 s') ∧ MZ (mTT tx n) b s' e os.length ∧ offG (chAb b C) (chEL b) s s'
    | .inr c2 => c2 ≤ N ∧ k ≤ c2 ∧ ((mTT tx n k).1 = 6 → k + 5 ≤ c2) ∧ ∃ s', b_267_299 (mjF (D + 14)) 97 (nI C) (mjW0 s) = b_267_338 (mjF (D + 14)) 97 (nI C) (mjW0 s') ∧ MR tx n b s' c2 o W os (ks ++ (if (mTT tx n k).1 = 6 then [k + 1] else [])) ∧ ((mTT tx n k).1 = 6 → s'.1 103 C = (mTT tx n k).2.1 ∧ s'.1 105 C = nI (800 * b + ks.length)) ∧ (¬ (mTT tx n k).1 = 6 → s' = s) ∧ offG (chAb b C) (chEL b) s s' := by
  have w6 : mjF (D + 14) 266 [.ref 97, .int 2] (mjW0 s) = _ := v_word (d := D + 13) h.at (w := 1) (by decide)
  rw [show nI (1 + 5) = 6 from rfl] at w6
  obtain ⟨t1, h1⟩ : ∃ t, t = uI s 103 (upd (s.1 103) C (mTT tx n k).2.1) := ⟨_, rfl⟩
  have k1 : offG chRow chRowL s t1 := by rw [h1]; exact offG.w (by unfold chRow; omega)
  have o1 : offG (chAb b C) (chEL b) s t1 := by rw [h1]; exact offG.w (by unfold chAb; omega)
  have pre : b_267_299 (mjF (D + 14)) 97 (nI C) (mjW0 s) = if (mTT tx n k).1 = 6 then bN (mjF (D + 14) 262 [.ref 97] (mjW0 t1)) (fun hp7 => gR hp7 97 12 16 (fun v8 => rV hp7 97 12 (bI (mjF (D + 14) 272 [.ref 97] hp7) (fun v9 hp10 => sI hp10 v8 (nI C) v9 (fun hp11 => b_267_338 (mjF (D + 14)) 97 (nI C) hp11))))) else b_267_338 (mjF (D + 14)) 97 (nI C) (mjW0 s) := by
    unfold b_267_299
    rw [xg_97_61, h.2.1.2.1, if_pos rfl, xV_97, w6, bI_s, i01, xg_97_14, xg_97_4, h.at.2.2.1, xs_103, if_pos (mj_in_nI hC (by decide)), nI_clamp (by omega), ← h1, xV_97]
  unfold pAbove
  by_cases e : (mTT tx n k).1 = 6
  · rw [if_pos e]
    have hl := lt_N hN h0 hk e (by decide)
    have a1 := h.keep k1
    obtain ⟨s2, e2, a2, r2, f2⟩ := m_next (d := D + 11) a1 (by rw [e]; decide)
    have Kd := m_kind (d := D + 8) a2 hks
    have r02 : offG (chAb b C) (chEL b) s s2 := o1.tr (offG.mono r2 (fun _ _ q => Or.inl q) (fun _ _ q => q))
    have pre2 : b_267_299 (mjF (D + 14)) 97 (nI C) (mjW0 s) = bI (mjF (D + 14) 272 [.ref 97] (mjW0 s2)) (fun v9 hp10 => sI hp10 105 (nI C) v9 (fun hp11 => b_267_338 (mjF (D + 14)) 97 (nI C) hp11)) := by
      rw [pre, if_pos e, e2, bN_s, xg_97_16, xV_97]
    cases hp : pKind (mTT tx n) (k + 1) with
    | inl e3 =>
      rw [hp] at Kd
      obtain ⟨s3, v, e3', z3, r3⟩ := Kd
      have z4 := z3.keep (s' := uI s3 105 (upd (s3.1 105) C v)) (offG.w (by unfold chRow; omega))
      refine ⟨_, ?_, z4, r02.tr ((offG.mono r3.1 (fun _ _ q => Or.inl q) (fun _ _ q => q)).tr (offG.w (Or.inr ⟨Or.inr rfl, rfl⟩)))⟩
      rw [pre2, e3', bI_s, xs_105, if_pos (mj_in_nI hC (by decide)), nI_clamp (by omega), cl_bad2 z4]
    | inr c' =>
      rw [hp] at Kd
      obtain ⟨s3, e3', a3, r3, f3⟩ := Kd
      have hln := pKind_len hp
      have hle : c' ≤ N := pType_le hN h0 hl (show pType (mTT tx n) (k + 1) = .inr c' by
        unfold pType
        by_cases e10 : (mTT tx n (k + 1)).1 = 10
        · exfalso
          unfold pKind at hp
          rw [if_neg (by rw [e10]; decide)] at hp
          cases hp
        · rw [if_neg e10]; exact hp)
      obtain ⟨t4, h4⟩ : ∃ t, t = uI s3 105 (upd (s3.1 105) C (nI (800 * b + ks.length))) := ⟨_, rfl⟩
      have k4 : offG chRow chRowL s3 t4 := by rw [h4]; exact offG.w (by unfold chRow; omega)
      have o4 : offG (chAb b C) (chEL b) s3 t4 := by rw [h4]; exact offG.w (by unfold chAb; omega)
      refine ⟨hle, by omega, fun _ => by omega, t4, ?_, ?_, fun _ => ⟨?_, ?_⟩, fun q => absurd e q, r02.tr ((offG.mono r3 (fun _ _ q => Or.inl q) (fun _ _ q => q)).tr o4)⟩
      · rw [pre2, e3', bI_s, xs_105, if_pos (mj_in_nI hC (by decide)), nI_clamp (by omega), ← h4]
      · rw [if_pos e]; exact a3.keep k4
      · rw [h4, uI_ne _ _ _ _ (by decide), r3.1 103 C (by unfold chE; omega), r2.1 103 C (by unfold chE; omega), h1, uI_same]; exact if_pos rfl
      · rw [h4, uI_same]; exact if_pos rfl
  · rw [if_neg e]
    exact ⟨hk, Nat.le_refl _, fun q => absurd q e, s, by rw [pre, if_neg e], by rw [if_neg e, List.append_nil]; exact h, fun q => absurd q e, fun _ => rfl, offG.rf⟩
/-- the rows that a CLASSNAME fills -/
def clS (s : mjSt3) (b C ci fm : Nat) (nm : Int64) (x : Int32) : mjSt3 := uI (uI (uI (uI (uI (uI (uI (uL (uI (uI s 97 (upd (s.1 97) 65 (nI C))) 100 (upd (s.1 100) b (nI (ci + 1)))) 101 (vp_updL (s.2.1 101) C nm)) 102 (upd (s.1 102) C x)) 103 (upd (s.1 103) C (-1))) 105 (upd (s.1 105) C (-1))) 106 (upd (s.1 106) C 0)) 104 (upd (s.1 104) C 0)) 107 (upd (s.1 107) C (nI fm))) 108 (upd (s.1 108) C 0)
theorem clS_off {nm : Int64} {x : Int32} : offCl b C fm s (clS s b C ci fm nm x) ∧ offG chRow chRowL s (clS s b C ci fm nm x) := by
  unfold clS
  refine ⟨?_, ?_⟩
  · exact (((((offG.w (by unfold chCl; omega)).tr (offG.w (h := 100) (by unfold chCl; omega))).tr (offG.wl (h := 101) (by unfold chClL; omega))).tr (offG.w (h := 102) (by unfold chCl; omega))).tr (offG.w (h := 103) (by unfold chCl; omega))).tr ((((offG.w (h := 105) (by unfold chCl; omega)).tr (offG.w (h := 106) (by unfold chCl; omega))).tr (offG.w (h := 104) (by unfold chCl; omega))).tr ((offG.w (h := 107) (by unfold chCl; omega)).tr (offG.w (h := 108) (by unfold chCl; omega))))
  · exact (((((offG.w (by unfold chRow; omega)).tr (offG.w (h := 100) (by unfold chRow; omega))).tr (offG.wl (h := 101) (by unfold chRowL; omega))).tr (offG.w (h := 102) (by unfold chRow; omega))).tr (offG.w (h := 103) (by unfold chRow; omega))).tr ((((offG.w (h := 105) (by unfold chRow; omega)).tr (offG.w (h := 106) (by unfold chRow; omega))).tr (offG.w (h := 104) (by unfold chRow; omega))).tr ((offG.w (h := 107) (by unfold chRow; omega)).tr (offG.w (h := 108) (by unfold chRow; omega))))
theorem clS_at {nm : Int64} {x : Int32} : (clS s b C ci fm nm x).1 100 b = nI (ci + 1) ∧ (clS s b C ci fm nm x).2.1 101 C = nm ∧ (clS s b C ci fm nm x).1 102 C = x ∧ (clS s b C ci fm nm x).1 103 C = -1 ∧ (clS s b C ci fm nm x).1 105 C = -1 ∧ (clS s b C ci fm nm x).1 106 C = 0 ∧ (clS s b C ci fm nm x).1 104 C = 0 ∧ (clS s b C ci fm nm x).1 107 C = nI fm ∧ (clS s b C ci fm nm x).1 108 C = 0 ∧ (clS s b C ci fm nm x).1 120 = s.1 120 := by
  unfold clS
  refine ⟨?_, ?_, ?_, ?_, ?_, ?_, ?_, ?_, ?_, rfl⟩
  · simp [uI_g, upd_g, uL_i]
  · show vp_updL _ _ _ _ = _
    exact if_pos rfl
  · simp [uI_g, upd_g, uL_i]
  · simp [uI_g, upd_g, uL_i]
  · simp [uI_g, upd_g, uL_i]
  · simp [uI_g, upd_g, uL_i]
  · simp [uI_g, upd_g, uL_i]
  · simp [uI_g, upd_g, uL_i]
  · simp [uI_g, upd_g, uL_i]
theorem idx16 {m : Nat} : (16 : Int32) * nI b + nI m = nI (16 * b + m) := by
  rw [show (16 : Int32) = nI 16 from rfl, pk_mul, nI_add]
/-- readClass up to its { -/
theorem m_clh (h0 : (mTT tx n N).1 = 0) (hN : N ≤ 3000) (hci : ci ≤ 16) (hfm : fm ≤ 384) (hk : k ≤ N) (hos : 6 * os.length ≤ 7 * k) (hks : 4 * ks.length ≤ k) (h : MR tx n b s k 0 W os ks) (e5 : (mTT tx n k).1 = 5) (h100 : s.1 100 b = nI ci) (h120 : s.1 120 b = nI fm) : match pHead (mTT tx n) ci k with
    | .inl e => ∃ s' x, mjF (D + 15) 267 [.ref 97] (mjW0 s) = some (none, mjW0 s') ∧ MZ (mTT tx n) b s' e x ∧ x ≤ 4720 ∧ offCl b (16 * b + ci) fm s s'
    | .inr hh => hh.1 ≤ N ∧ k + 4 ≤ hh.1 ∧ 4 * (hdK hh.2).length + k + 1 ≤ hh.1 ∧ ci < 16 ∧ ∃ s', mjF (D + 15) 267 [.ref 97] (mjW0 s) = L_267_371 (mjF (D + 14)) mjN 97 (nI (16 * b + ci)) (mjW0 s') ∧ MR tx n b s' hh.1 1 W os (ks ++ hdK hh.2) ∧ RH (mTT tx n) b s' (ks ++ hdK hh.2) (16 * b + ci) fm hh.2 ∧ s'.1 100 b = nI (ci + 1) ∧ s'.1 120 b = nI fm ∧ s'.1 108 (16 * b + ci) = 0 ∧ offCl b (16 * b + ci) fm s s' := by
  have hmj := mjN_v
  have hb := h.2.1.1
  obtain ⟨C, hCe⟩ : ∃ C, C = 16 * b + ci := ⟨_, rfl⟩
  rw [← hCe]
  have A := h.at
  have hkN := lt_N hN h0 hk e5 (by decide)
  unfold pHead
  by_cases e16 : ci = 16
  · rw [if_pos e16]
    refine ⟨_, _, ?_, h.z (e := (3, k)) (Or.inr (Or.inr rfl)), by omega, offCl_E (bS_off _ _)⟩
    rw [e_267]
    unfold f_267 b_267_0
    rw [xg_97_63, h.2.1.2.2.1, xg_97_11, xg_97_63, h.2.1.2.2.1, xa_100, if_pos (mj_in_nI (by omega) (by decide)), nI_clamp (by omega), h100, xg_97_11, xg_97_63, h.2.1.2.2.1, xa_100, if_pos (mj_in_nI (by omega) (by decide)), nI_clamp (by omega), h100, if_pos (show nI ci = 16 by rw [e16]; rfl), xg_97_4, A.2.2.1, xV_97, v_fail h.2.1.2.1, bN_s]
    rfl
  · rw [if_neg e16]
    have hC : C < 32 := by omega
    obtain ⟨s1, e1, a1, r1, f1⟩ := m_next (d := D + 11) h (by rw [e5]; decide)
    have A1 := a1.at
    have S1 := (v_srt A1).1
    have g100 : s1.1 100 b = nI ci := by rw [r1.1 100 b (by unfold chE; omega), h100]
    have g120 : s1.1 120 b = nI fm := by rw [r1.1 120 b (by unfold chE; omega), h120]
    have ad1 : ∀ x, nI x + (1 : Int32) = nI (x + 1) := fun x => by rw [show (1 : Int32) = nI 1 from rfl, nI_add]
    have body : mjF (D + 15) 267 [.ref 97] (mjW0 s) = if (mTT tx n (k + 1)).1 = 2 then bN (mjF (D + 14) 262 [.ref 97] (mjW0 (clS s1 b C ci fm (mTT tx n (k + 1)).2.2.1 (mTT tx n (k + 1)).2.1))) (fun hp36 => rV hp36 97 12 (bN (mjF (D + 14) 270 [.ref 97, .int (91 : Int32)] hp36) (fun hp37 => gI hp37 97 12 61 (fun v38 => (if v38 = 0 then b_267_169 (mjF (D + 14)) 97 (nI C) (1 : Int32) hp37 else b_267_169 (mjF (D + 14)) 97 (nI C) (0 : Int32) hp37))))) else bN (mjF (D + 14) 269 [.ref 97] (mjW0 s1)) (fun hp39 => some (none, hp39)) := by
      rw [e_267]
      unfold f_267 b_267_0
      rw [xg_97_63, h.2.1.2.2.1, xg_97_11, xg_97_63, h.2.1.2.2.1, xa_100, if_pos (mj_in_nI (by omega) (by decide)), nI_clamp (by omega), h100, xg_97_11, xg_97_63, h.2.1.2.2.1, xa_100, if_pos (mj_in_nI (by omega) (by decide)), nI_clamp (by omega), h100, if_neg (show ¬ nI ci = 16 from fun q => e16 ((nI_eq (a := ci) (b := 16) (by omega) (by omega)).mp q)), xV_97, e1, bN_s, xg_97_3, idx16, ← hCe]
      by_cases e2 : (mTT tx n (k + 1)).1 = 2
      · rw [if_pos e2, if_pos (S1.mpr e2), xp_97_65, xg_97_11, xg_97_63]
        rw [show (uI s1 97 (upd (s1.1 97) 65 (nI C))).1 97 63 = nI b by rw [uI_same]; exact (if_neg (by decide)).trans a1.2.1.2.2.1]
        rw [xa_100, if_pos (mj_in_nI (by omega) (by decide)), nI_clamp (by omega), uI_ne _ _ _ _ (by decide), g100, ad1, xs_100, if_pos (mj_in_nI (by omega) (by decide)), nI_clamp (by omega), uI_ne _ _ _ _ (by decide), xg_97_12, xg_97_7, uI_l, uI_l, A1.2.2.2.2 (Or.inl e2), xs_101, if_pos (mj_in_nI hC (by decide)), nI_clamp (by omega), uI_l, uI_l, xg_97_13, xg_97_4, uL_i, uI_ne _ _ _ _ (by decide)]
        rw [show (uI s1 97 (upd (s1.1 97) 65 (nI C))).1 97 4 = (mTT tx n (k + 1)).2.1 by rw [uI_same]; exact (if_neg (by decide)).trans A1.2.2.1]
        rw [xs_102, if_pos (mj_in_nI hC (by decide)), nI_clamp (by omega), xg_97_14, xs_103, if_pos (mj_in_nI hC (by decide)), nI_clamp (by omega), xg_97_16, xs_105, if_pos (mj_in_nI hC (by decide)), nI_clamp (by omega), xg_97_17, xs_106, if_pos (mj_in_nI hC (by decide)), nI_clamp (by omega), xg_97_15, xs_104, if_pos (mj_in_nI hC (by decide)), nI_clamp (by omega), xg_97_18, xg_97_31, xg_97_63]
        generalize hX : uI (uI (uI (uI (uI (uL (uI (uI s1 97 (upd (s1.1 97) 65 (nI C))) 100 (upd (s1.1 100) b (nI (ci + 1)))) 101 (vp_updL (s1.2.1 101) C (mTT tx n (k + 1)).2.2.1)) 102 _) 103 _) 105 _) 106 _) 104 _ = X
        have X63 : X.1 97 63 = nI b := by
          rw [← hX]
          rw [uI_ne _ _ _ _ (by decide), uI_ne _ _ _ _ (by decide), uI_ne _ _ _ _ (by decide), uI_ne _ _ _ _ (by decide), uI_ne _ _ _ _ (by decide), uL_i, uI_ne _ _ _ _ (by decide), uI_same]
          exact (if_neg (by decide)).trans a1.2.1.2.2.1
        have X120 : X.1 120 b = nI fm := by
          rw [← hX]
          rw [uI_ne _ _ _ _ (by decide), uI_ne _ _ _ _ (by decide), uI_ne _ _ _ _ (by decide), uI_ne _ _ _ _ (by decide), uI_ne _ _ _ _ (by decide), uL_i, uI_ne _ _ _ _ (by decide), uI_ne _ _ _ _ (by decide)]
          exact g120
        rw [X63, xa_120, if_pos (mj_in_nI (by omega) (by decide)), nI_clamp (by omega), X120, xs_107, if_pos (mj_in_nI hC (by decide)), nI_clamp (by omega), xg_97_19, xs_108, if_pos (mj_in_nI hC (by decide)), nI_clamp (by omega), xV_97, ← hX]
        rfl
      · rw [if_neg e2, if_neg (fun q => e2 (S1.mp q)), xV_97]
    have r01 : offCl b C fm s s1 := offCl_E r1
    by_cases e2 : (mTT tx n (k + 1)).1 = 2
    · simp only [if_pos e2]
      have hl1 := lt_N hN h0 (show k + 1 ≤ N from hkN) e2 (by decide)
      have ko := clS_off (b := b) (C := C) (ci := ci) (fm := fm) (s := s1) (nm := (mTT tx n (k + 1)).2.2.1) (x := (mTT tx n (k + 1)).2.1)
      have ka := clS_at (b := b) (C := C) (ci := ci) (fm := fm) (s := s1) (nm := (mTT tx n (k + 1)).2.2.1) (x := (mTT tx n (k + 1)).2.1)
      obtain ⟨t2, h2⟩ : ∃ t, t = clS s1 b C ci fm (mTT tx n (k + 1)).2.2.1 (mTT tx n (k + 1)).2.1 := ⟨_, rfl⟩
      rw [← h2] at ko ka body
      have a2 := a1.keep ko.2
      obtain ⟨s3, e3, a3, r3, f3⟩ := m_next (d := D + 11) a2 (by rw [e2]; decide)
      have r03 : offCl b C fm s s3 := r01.tr (ko.1.tr (offCl_E r3))
      have body2 : mjF (D + 15) 267 [.ref 97] (mjW0 s) = bN (mjF (D + 14) 270 [.ref 97, .int (91 : Int32)] (mjW0 s3)) (fun hp37 => gI hp37 97 12 61 (fun v38 => (if v38 = 0 then b_267_169 (mjF (D + 14)) 97 (nI C) (1 : Int32) hp37 else b_267_169 (mjF (D + 14)) 97 (nI C) (0 : Int32) hp37))) := by
        rw [body, if_pos e2, e3, bN_s, xV_97]
      by_cases e91 : (mTT tx n (k + 2)).1 = 91
      · simp only [if_pos e91]
        have hl2 := lt_N hN h0 (show k + 2 ≤ N from hl1) e91 (by decide)
        obtain ⟨s4, e4, a4, r4, f4⟩ := m_take (d := D + 10) a3 (c := 91) (by decide) e91
        have r24 := r3.tr r4
        have r04 : offCl b C fm s s4 := r03.tr (offCl_E r4)
        have body3 : mjF (D + 15) 267 [.ref 97] (mjW0 s) = lNa D mjN C 1 s4 := by
          rw [body2, e4, bN_s, xg_97_61, a4.2.1.2.1, if_pos rfl]
          rfl
        have q4 : ∀ x j, 100 ≤ x → x ≤ 120 → s4.1 x j = t2.1 x j := fun x j e e' => r24.1 x j (by unfold chE; omega)
        have l4 : ∀ j, s4.2.1 101 j = t2.2.1 101 j := fun j => r24.2.1 101 j (by unfold chEL; omega)
        have p4 : RN (mTT tx n) s4 C (k + 3) 0 := ⟨by rw [q4 104 C (by omega) (by omega), ka.2.2.2.2.2.2.1]; rfl, fun j hj => by omega⟩
        have I := nam_ok (D := D) (c0 := k + 3) h0 hN hC 6 0 s4 rfl (by omega) hl2 a4 p4
        rw [show k + 3 + 2 * 0 = k + 3 from rfl] at I
        cases hn : pNames (mTT tx n) 6 0 (k + 3) with
        | inl e =>
          rw [hn] at I
          obtain ⟨s5, j, g1, g2, g3, g4⟩ := I
          refine ⟨s5, _, ?_, g3, by omega, r04.tr (offCl_Na g4)⟩
          rw [body3, show mjN = (mjN - j) + j by omega]; exact g1 _
        | inr a =>
          rw [hn] at I
          obtain ⟨i1, i2, i3, i4, s5, j, g1, g2, a5, p5, r5⟩ := I
          have r05 : offCl b C fm s s5 := r04.tr (offCl_Na r5)
          have body4 : mjF (D + 15) 267 [.ref 97] (mjW0 s) = b_267_299 (mjF (D + 14)) 97 (nI C) (mjW0 s5) := by
            rw [body3, show mjN = (mjN - j) + j by omega]; exact g1 _
          have q5 : ∀ x j, x = 100 ∨ x = 102 ∨ x = 103 ∨ (105 ≤ x ∧ x ≤ 108) ∨ x = 120 → s5.1 x j = t2.1 x j := fun x j e => by
            rw [r5.1 x j (by unfold chNa chE; omega), q4 x j (by omega) (by omega)]
          have l5 : ∀ j, s5.2.1 101 j = t2.2.1 101 j := fun j => by rw [r5.2.1 101 j (by unfold chNaL chEL; omega), l4]
          have J := c_above (D := D) h0 hN hC i1 (by omega) a5
          show match (match pAbove (mTT tx n) a.2 with
            | .inl e => .inl e
            | .inr c2 => (match pWhere (mTT tx n) c2 with
              | .inl e => .inl e
              | .inr w => if (mTT tx n w.2).1 = 123 then .inr (w.2 + 1, k + 1, a.1, if (mTT tx n a.2).1 = 6 then a.2 + 1 else 0, c2 + 1, w.1) else .inl (F2 (mTT tx n) w.2)) : (Nat × Nat) ⊕ (Nat × HD)) with
            | .inl e => _
            | .inr hh => _
          cases hab : pAbove (mTT tx n) a.2 with
          | inl e =>
            rw [hab] at J
            obtain ⟨s6, e6, z6, r6⟩ := J
            exact ⟨s6, _, by rw [body4, e6], z6, by omega, r05.tr (offCl_Ab r6)⟩
          | inr c2 =>
            rw [hab] at J
            obtain ⟨j1, j2, j3, s6, e6, a6, j6, j7, r6⟩ := J
            have r06 : offCl b C fm s s6 := r05.tr (offCl_Ab r6)
            have q6 : ∀ x j, x = 100 ∨ x = 102 ∨ (106 ≤ x ∧ x ≤ 108) ∨ x = 120 → s6.1 x j = t2.1 x j := fun x j e => by
              rw [r6.1 x j (by unfold chAb chE; omega), q5 x j (by omega)]
            have K := c_where (D := D) h0 hN hC j1 a6 (by rw [q6 106 C (by omega), ka.2.2.2.2.2.1])
            show match (match pWhere (mTT tx n) c2 with
              | .inl e => .inl e
              | .inr w => if (mTT tx n w.2).1 = 123 then .inr (w.2 + 1, k + 1, a.1, if (mTT tx n a.2).1 = 6 then a.2 + 1 else 0, c2 + 1, w.1) else .inl (F2 (mTT tx n) w.2) : (Nat × Nat) ⊕ (Nat × HD)) with
            | .inl e => _
            | .inr hh => _
            cases hw : pWhere (mTT tx n) c2 with
            | inl e =>
              rw [hw] at K
              obtain ⟨s7, e7, z7, r7⟩ := K
              exact ⟨s7, _, by rw [body4, e6, e7], z7, by omega, r06.tr (offCl_In r7)⟩
            | inr w =>
              rw [hw] at K
              obtain ⟨k1, k2, k3, s7, e7, a7, p7, r7⟩ := K
              have r07 : offCl b C fm s s7 := r06.tr (offCl_In r7)
              obtain ⟨cp, cn⟩ := c_open (D := D) (C := C) a7
              by_cases e123 : (mTT tx n w.2).1 = 123
              · simp only [if_pos e123]
                have hl7 := lt_N hN h0 k1 e123 (by decide)
                obtain ⟨s8, e8, a8, r8⟩ := cp e123
                have q8 : ∀ x j, x = 100 ∨ x = 102 ∨ x = 107 ∨ x = 108 ∨ x = 120 → s8.1 x j = t2.1 x j := fun x j e => by
                  rw [r8.1 x j (by unfold chE; omega), r7.1 x j (by unfold chIn chE; omega), q6 x j (by omega)]
                have q86 : ∀ x j, (102 ≤ x ∧ x ≤ 105) ∨ x = 112 → s8.1 x j = s6.1 x j := fun x j e => by
                  rw [r8.1 x j (by unfold chE; omega), r7.1 x j (by unfold chIn chE; omega)]
                have q85 : ∀ x j, x = 104 ∨ x = 112 → s8.1 x j = s5.1 x j := fun x j e => by
                  rw [q86 x j (by omega), r6.1 x j (by unfold chAb chE; omega)]
                have l85 : ∀ x j, x = 101 ∨ x = 111 → s8.2.1 x j = s5.2.1 x j := fun x j e => by
                  rw [r8.2.1 x j (by unfold chEL; omega), r7.2.1 x j (by unfold chInL chEL; omega), r6.2.1 x j (by unfold chEL; omega)]
                have hK : hdK (k + 1, a.1, (if (mTT tx n a.2).1 = 6 then a.2 + 1 else 0), c2 + 1, w.1) = if (mTT tx n a.2).1 = 6 then [a.2 + 1] else [] := by
                  unfold hdK
                  by_cases e6 : (mTT tx n a.2).1 = 6
                  · simp only [if_pos e6]; exact if_neg (by omega)
                  · simp only [if_neg e6]; exact if_pos trivial
                refine ⟨hl7, by show k + 4 ≤ w.2 + 1; omega, ?_, by omega, s8, by rw [body4, e6, e7, e8], by rw [hK]; exact a8, ⟨?_, ?_, ?_, fun hz => ?_, fun hz => ?_, p7.off r8, ?_, i4, k3⟩, ?_, ?_, ?_, r07.tr (offCl_E r8)⟩
                · show 4 * (hdK (k + 1, a.1, (if (mTT tx n a.2).1 = 6 then a.2 + 1 else 0), c2 + 1, w.1)).length + k + 1 ≤ w.2 + 1
                  rw [hK]
                  by_cases e6 : (mTT tx n a.2).1 = 6
                  · rw [if_pos e6]; have := j3 e6; show 4 * 1 + k + 1 ≤ w.2 + 1; omega
                  · rw [if_neg e6]; show 4 * 0 + k + 1 ≤ w.2 + 1; omega
                · rw [l85 101 _ (by omega), l5, ka.2.1]
                · rw [q8 102 _ (by omega), ka.2.2.1]
                · refine ⟨?_, fun j hj => ?_⟩
                  · rw [q85 104 _ (by omega)]; exact p5.1
                  · rw [l85 111 _ (by omega), q85 112 _ (by omega)]; exact p5.2 j hj
                · have n6 : ¬ (mTT tx n a.2).1 = 6 := fun q => by
                    have hz' : (if (mTT tx n a.2).1 = 6 then a.2 + 1 else 0) = 0 := hz
                    rw [if_pos q] at hz'; omega
                  have es := j7 n6
                  rw [q86 103 _ (by omega), q86 105 _ (by omega), es, q5 103 _ (by omega), q5 105 _ (by omega)]
                  exact ⟨ka.2.2.2.1, ka.2.2.2.2.1⟩
                · have y6 : (mTT tx n a.2).1 = 6 := by
                    by_cases q : (mTT tx n a.2).1 = 6
                    · exact q
                    · exact absurd (show (if (mTT tx n a.2).1 = 6 then a.2 + 1 else 0) = 0 from if_neg q) hz
                  show s8.1 103 C = (mTT tx n ((if (mTT tx n a.2).1 = 6 then a.2 + 1 else 0) - 1)).2.1 ∧ ∃ i, (ks ++ hdK (k + 1, a.1, (if (mTT tx n a.2).1 = 6 then a.2 + 1 else 0), c2 + 1, w.1))[i]? = some (if (mTT tx n a.2).1 = 6 then a.2 + 1 else 0) ∧ s8.1 105 C = nI (800 * b + i)
                  obtain ⟨x1, x2⟩ := j6 y6
                  rw [hK, if_pos y6, if_pos y6, q86 103 _ (by omega), q86 105 _ (by omega)]
                  refine ⟨x1, ks.length, ?_, x2⟩
                  rw [List.getElem?_append_right (Nat.le_refl _), Nat.sub_self]; rfl
                · rw [q8 107 _ (by omega), ka.2.2.2.2.2.2.2.1]
                · rw [q8 100 _ (by omega), ka.1]
                · rw [q8 120 _ (by omega), ka.2.2.2.2.2.2.2.2.2, g120]
                · rw [q8 108 _ (by omega), ka.2.2.2.2.2.2.2.2.1]
              · simp only [if_neg e123]
                obtain ⟨s8, e8, z8, r8⟩ := cn e123
                exact ⟨s8, _, by rw [body4, e6, e7, e8], z8, by omega, r07.tr (offCl_E r8)⟩
      · simp only [if_neg e91]
        have e4 := m_takeB (d := D + 10) a3 (c := 91) (by decide) e91
        have z4 := m_wz a3
        refine ⟨_, _, ?_, z4, by omega, r03.tr (offCl_E (bS_off _ _))⟩
        rw [body2, e4, bN_s, xg_97_61, if_neg z4.n0]
        unfold b_267_169
        rw [show mjN = (mjN - 1) + 1 by omega, L267_S]
        unfold b_267_170
        rw [if_pos rfl, xg_97_61, if_neg z4.n0, cl_bad1 z4]
    · simp only [if_neg e2]
      exact ⟨_, _, by rw [body, if_neg e2, m_wrong a1, bN_s], m_wz a1, by omega, r01.tr (offCl_E (bS_off _ _))⟩
end MJ98
end
section
/-! ===== the reference: a CLASS ===== -/
def RC (T : TT) (b : Nat) (s : mjSt3) (ks : List Nat) (C fm : Nat) (E : CD) : Prop := RH T b s ks C fm E.1 ∧ s.1 108 C = nI E.2.length ∧ ∀ j md, E.2[j]? = some md → RM T s (400 * b + (fm + j)) C md
noncomputable def lM (D m C : Nat) (s : mjSt3) : mjU := L_267_371 (mjF (D + 14)) m 97 (nI C) (mjW0 s)
section MJ99
variable {tx : Nat → Int32} {n b D k o N C ci fm : Nat} {s s' : mjSt3} {W : List WF} {os : List Row} {ks : List Nat}
theorem offCl_Mm {M : Nat} (h : offMm b M C s s') (h1 : 400 * b + fm ≤ M) (h2 : M < 400 * b + 400) : offCl b C fm s s' := offG.mono h (fun x y q => by
  rcases q with q | q | q | q | q | q
  · exact Or.inl q
  · exact Or.inr (Or.inl ⟨q.1, Or.inr q.2⟩)
  · exact Or.inr (Or.inr (Or.inl ⟨Or.inr q.1, q.2⟩))
  · exact Or.inr (Or.inr (Or.inr (Or.inl ⟨by omega, by omega, q.2⟩)))
  · exact Or.inr (Or.inr (Or.inr (Or.inr (Or.inr (Or.inr (Or.inl ⟨q.1, q.2.1, by omega, by omega⟩))))))
  · exact Or.inr (Or.inr (Or.inr (Or.inr (Or.inr (Or.inr (Or.inr (⟨q.1, by omega, by omega⟩)))))))) (fun x y q => by
  rcases q with q | q | q
  · exact Or.inl q
  · exact Or.inr (Or.inr (Or.inr (Or.inr (Or.inl ⟨q.1, by omega, by omega⟩))))
  · exact Or.inr (Or.inr (Or.inr (Or.inr (Or.inr (⟨q.1, by omega, by omega⟩))))))
/-- another MEMBER's rows stay -/
theorem RM.off {T : TT} {M M' C' : Nat} {md : MD} (h : RM T s M' C' md) (r : offMm b M C s s') (ne : ¬ M' = M) : RM T s' M' C' md := by
  obtain ⟨⟨p1, p2, p3, p4⟩, p5, ⟨p6, p7⟩, p8, p9, p10⟩ := h
  have q : ∀ x, 124 ≤ x → x ≤ 131 → s'.1 x M' = s.1 x M' := fun x e e' => r.1 x M' (by unfold chMm chS chE; omega)
  refine ⟨⟨by rw [q 124 (by omega) (by omega), p1], by rw [q 126 (by omega) (by omega), p2], by rw [q 127 (by omega) (by omega), p3], by rw [r.2.1 132 M' (by unfold chMmL chEL; omega), p4]⟩, by rw [q 125 (by omega) (by omega), p5], ⟨by rw [q 128 (by omega) (by omega), p6], fun j p hp => ?_⟩, by rw [q 129 (by omega) (by omega), p8], by rw [q 131 (by omega) (by omega), p9], p10⟩
  have hj := (List.getElem?_eq_some_iff.mp hp).1
  rw [r.1 133 _ (by unfold chMm chS chE; omega), r.1 134 _ (by unfold chMm chS chE; omega), r.2.1 135 _ (by unfold chMmL chEL; omega)]
  exact p7 j p hp
/-- MEMBERS -/
theorem mms_ok (h0 : (mTT tx n N).1 = 0) (hN : N ≤ 3000) (hC : C < 32) (hfm : fm + 24 ≤ 384) {os0 : List Row} {ks0 : List Nat} : ∀ (f : Nat) (z : PM) (s : mjSt3) (W : List WF), f + z.2.1.length = 25 → z.2.1.length ≤ 24 → z.1 ≤ N → 6 * (os0 ++ z.2.2.2.1).length ≤ 7 * z.1 → 4 * (ks0 ++ z.2.2.1).length ≤ z.1 → MR tx n b s z.1 1 W (os0 ++ z.2.2.2.1) (ks0 ++ z.2.2.1) → (∀ j md, z.2.1[j]? = some md → RM (mTT tx n) s (400 * b + (fm + j)) C md) → s.1 108 C = nI z.2.1.length → s.1 120 b = nI (fm + z.2.1.length) → match pMems (mTT tx n) (N + 1) (800 * b + ks0.length) os0.length f z with
    | .inl e => ∃ s' j x, (∀ q, lM D (q + j) C s = some (none, mjW0 s')) ∧ j ≤ f + 2 ∧ MZ (mTT tx n) b s' e x ∧ x ≤ 4720 ∧ offCl b C fm s s'
    | .inr y => ¬ tyS (mTT tx n y.1).1 = true ∧ z.1 ≤ y.1 ∧ y.1 ≤ N ∧ y.2.1.length ≤ 24 ∧ 6 * y.2.2.2.1.length ≤ 6 * z.2.2.2.1.length + 7 * (y.1 - z.1) ∧ 4 * y.2.2.1.length ≤ 4 * z.2.2.1.length + (y.1 - z.1) ∧ ∃ s' j W', (∀ q, lM D (q + j) C s = lM D q C s') ∧ j ≤ f + 2 ∧ MR tx n b s' y.1 1 W' (os0 ++ y.2.2.2.1) (ks0 ++ y.2.2.1) ∧ (∀ j md, y.2.1[j]? = some md → RM (mTT tx n) s' (400 * b + (fm + j)) C md) ∧ s'.1 108 C = nI y.2.1.length ∧ s'.1 120 b = nI (fm + y.2.1.length) ∧ (∀ x j, x = 100 ∨ (101 ≤ x ∧ x ≤ 107) ∨ x = 112 ∨ x = 115 ∨ x = 116 → s'.1 x j = s.1 x j) ∧ (∀ x j, x = 101 ∨ x = 111 ∨ x = 113 ∨ x = 114 → s'.2.1 x j = s.2.1 x j) ∧ offCl b C fm s s'
  | 0, z, s, W, hf, hl, _, _, _, _, _, _, _ => by omega
  | f + 1, z, s, W, hf, hl, hz, hos, hks, a, rm, h108, h120 => by
    have hb := a.2.1.1
    unfold pMems
    by_cases ty : tyS (mTT tx n z.1).1 = true
    · rw [if_pos ty]
      have n125 : ¬ (mTT tx n z.1).1 = 125 := fun e => by rw [e] at ty; exact absurd ty (by decide)
      have G := m_mem (D := D) (C := C) (kk := z.2.1.length) (mm := fm + z.2.1.length) h0 hN hC (by omega) hl hz hos hks a ty h108 h120
      rw [List.length_append, List.length_append, ← Nat.add_assoc] at G
      have pre : ∀ q, lM D (q + 1) C s = bN (mjF (D + 14) 275 [.ref 97, .int (nI C)] (mjW0 s)) (fun hp4 => L_267_371 (mjF (D + 14)) q 97 (nI C) hp4) := by
        intro q
        unfold lM
        rw [L267m_S]
        unfold b_267_371
        rw [xg_97_61, a.2.1.2.1, if_pos rfl, xV_97, v_sign a.at (c := 125) (by decide), bI_s, i01, if_neg n125, xV_97]
      cases hm : pMem (mTT tx n) (N + 1) z.2.1.length z.1 (800 * b + ks0.length + z.2.2.1.length) (os0.length + z.2.2.2.1.length) with
      | inl e =>
        rw [hm] at G
        obtain ⟨s1, x, e1, z1, hx, r1⟩ := G
        refine ⟨s1, 2, x, fun q => ?_, by omega, z1, hx, offCl_Mm r1 (by omega) (by omega)⟩
        rw [show q + 2 = (q + 1) + 1 by omega, pre, e1, bN_s, L267m_S]
        unfold b_267_371
        rw [xg_97_61, if_neg z1.n0]
        unfold b_267_395
        rw [xg_97_61, if_neg z1.n0]
      | inr r =>
        rw [hm] at G
        obtain ⟨g1, g2, g3, g4, g5, s1, W1, e1, a1, rm1, x1, x2, r1⟩ := G
        rw [List.append_assoc, List.append_assoc] at a1
        rw [List.length_append] at hos hks
        have pl : (z.2.1 ++ [r.2.1]).length = z.2.1.length + 1 := by rw [List.length_append, List.length_singleton]
        have rm' : ∀ j md, (z.2.1 ++ [r.2.1])[j]? = some md → RM (mTT tx n) s1 (400 * b + (fm + j)) C md := by
          intro j md hj
          by_cases e : j = z.2.1.length
          · subst e
            rw [List.getElem?_append_right (Nat.le_refl _), Nat.sub_self] at hj
            have em : r.2.1 = md := by simpa using hj
            subst em
            exact rm1
          · have hj' : j < z.2.1.length := by
              have := (List.getElem?_eq_some_iff.mp hj).1
              omega
            rw [List.getElem?_append_left hj'] at hj
            exact (rm j md hj).off r1 (by omega)
        have I := mms_ok h0 hN hC hfm f (r.1, z.2.1 ++ [r.2.1], z.2.2.1 ++ r.2.2.1, z.2.2.2.1 ++ r.2.2.2.1, z.2.2.2.2 ++ r.2.2.2.2) s1 W1 (by show f + (z.2.1 ++ [r.2.1]).length = 25; omega) (by show (z.2.1 ++ [r.2.1]).length ≤ 24; omega) g2 (by show 6 * (os0 ++ (z.2.2.2.1 ++ r.2.2.2.1)).length ≤ 7 * r.1; rw [List.length_append, List.length_append]; omega) (by show 4 * (ks0 ++ (z.2.2.1 ++ r.2.2.1)).length ≤ r.1; rw [List.length_append, List.length_append]; omega) a1 rm' (by rw [x1]; show _ = nI (z.2.1 ++ [r.2.1]).length; rw [pl]) (by rw [x2]; show _ = nI (fm + (z.2.1 ++ [r.2.1]).length); rw [pl]; rfl)
        have r1c : offCl b C fm s s1 := offCl_Mm r1 (by omega) (by omega)
        have step : ∀ q, lM D (q + 1) C s = lM D q C s1 := fun q => by rw [pre, e1, bN_s]; rfl
        show match pMems (mTT tx n) (N + 1) (800 * b + ks0.length) os0.length f (r.1, z.2.1 ++ [r.2.1], z.2.2.1 ++ r.2.2.1, z.2.2.2.1 ++ r.2.2.2.1, z.2.2.2.2 ++ r.2.2.2.2) with
          | .inl e => _
          | .inr y => _
        cases hp : pMems (mTT tx n) (N + 1) (800 * b + ks0.length) os0.length f (r.1, z.2.1 ++ [r.2.1], z.2.2.1 ++ r.2.2.1, z.2.2.2.1 ++ r.2.2.2.1, z.2.2.2.2 ++ r.2.2.2.2) with
        | inl e =>
          rw [hp] at I
          obtain ⟨s2, j, x, i1, i2, i3, i4, i5⟩ := I
          exact ⟨s2, j + 1, x, fun q => by rw [← Nat.add_assoc, step]; exact i1 q, by omega, i3, i4, r1c.tr i5⟩
        | inr y =>
          rw [hp] at I
          obtain ⟨i1, i2, i3, i4, i5, i6, s2, j, W2, j1, j2, j3, j4, j5, j6, j7, j8, j9⟩ := I
          have i2' : r.1 ≤ y.1 := i2
          have i5' : 6 * y.2.2.2.1.length ≤ 6 * (z.2.2.2.1 ++ r.2.2.2.1).length + 7 * (y.1 - r.1) := i5
          have i6' : 4 * y.2.2.1.length ≤ 4 * (z.2.2.1 ++ r.2.2.1).length + (y.1 - r.1) := i6
          rw [List.length_append] at i5' i6'
          exact ⟨i1, by omega, i3, i4, by omega, by omega, s2, j + 1, W2, fun q => by rw [← Nat.add_assoc, step]; exact j1 q, by omega, j3, j4, j5, j6, fun x i e => by rw [j7 x i e, r1.1 x i (by unfold chMm chS chE; omega)], fun x i e => by rw [j8 x i e, r1.2.1 x i (by unfold chMmL chEL; omega)], r1c.tr j9⟩
    · rw [if_neg ty]
      exact ⟨ty, Nat.le_refl _, hz, hl, by omega, by omega, s, 0, W, fun q => rfl, by omega, a, rm, h108, h120, fun _ _ _ => rfl, fun _ _ _ => rfl, offG.rf⟩
/-- readClass -/
theorem m_class (h0 : (mTT tx n N).1 = 0) (hN : N ≤ 3000) (hci : ci ≤ 16) (hfm : fm ≤ 24 * ci) (hk : k ≤ N) (hos : 6 * os.length ≤ 7 * k) (hks : 4 * ks.length ≤ k) (h : MR tx n b s k 0 W os ks) (e5 : (mTT tx n k).1 = 5) (h100 : s.1 100 b = nI ci) (h120 : s.1 120 b = nI fm) : match pClass (mTT tx n) (N + 1) ci k (800 * b + ks.length) os.length with
    | .inl e => ∃ s' x, mjF (D + 15) 267 [.ref 97] (mjW0 s) = some (none, mjW0 s') ∧ MZ (mTT tx n) b s' e x ∧ x ≤ 4720 ∧ offCl b (16 * b + ci) fm s s'
    | .inr r => k < r.1 ∧ r.1 ≤ N ∧ 6 * r.2.2.2.1.length ≤ 7 * (r.1 - k) ∧ 4 * r.2.2.1.length ≤ r.1 - k ∧ ci < 16 ∧ r.2.1.2.length ≤ 24 ∧ ∃ s' W', mjF (D + 15) 267 [.ref 97] (mjW0 s) = some (none, mjW0 s') ∧ MR tx n b s' r.1 0 W' (os ++ r.2.2.2.1) (ks ++ r.2.2.1) ∧ RC (mTT tx n) b s' (ks ++ r.2.2.1) (16 * b + ci) fm r.2.1 ∧ s'.1 100 b = nI (ci + 1) ∧ s'.1 120 b = nI (fm + r.2.1.2.length) ∧ offCl b (16 * b + ci) fm s s' := by
  have hmj := mjN_v
  have hb := h.2.1.1
  have G := m_clh (D := D) h0 hN hci (show fm ≤ 384 by omega) hk hos hks h e5 h100 h120
  unfold pClass
  cases hh : pHead (mTT tx n) ci k with
  | inl e =>
    rw [hh] at G
    exact G
  | inr hd =>
    rw [hh] at G
    obtain ⟨g1, g2, g3, g4, s1, e1, a1, rh, x100, x120, x108, r1⟩ := G
    obtain ⟨C, hCe⟩ : ∃ C, C = 16 * b + ci := ⟨_, rfl⟩
    rw [← hCe] at e1 rh x108 r1 ⊢
    have hC : C < 32 := by omega
    have KL : (ks ++ hdK hd.2).length = ks.length + (hdK hd.2).length := List.length_append
    have I := mms_ok (D := D) (os0 := os) (ks0 := ks ++ hdK hd.2) h0 hN hC (show fm + 24 ≤ 384 by omega) 25 (hd.1, [], [], [], []) s1 W rfl (by show 0 ≤ 24; omega) g1 (by show 6 * (os ++ []).length ≤ 7 * hd.1; rw [List.append_nil]; omega) (by show 4 * (ks ++ hdK hd.2 ++ []).length ≤ hd.1; rw [List.append_nil, KL]; omega) (by show MR tx n b s1 hd.1 1 W (os ++ []) (ks ++ hdK hd.2 ++ []); rw [List.append_nil, List.append_nil]; exact a1) (fun j md hj => by cases hj) (by rw [x108]; rfl) (by rw [x120]; rfl)
    rw [KL, ← Nat.add_assoc] at I
    show match (match pMems (mTT tx n) (N + 1) (800 * b + ks.length + (hdK hd.2).length) os.length 25 (hd.1, [], [], [], []) with
      | .inl e => .inl e
      | .inr z => if (mTT tx n z.1).1 = 125 then .inr (z.1 + 1, (hd.2, z.2.1), hdK hd.2 ++ z.2.2.1, z.2.2.2.1, z.2.2.2.2) else .inl (F2 (mTT tx n) z.1) : (Nat × Nat) ⊕ (Nat × CD × List Nat × List Row × List (Nat × Nat))) with
      | .inl e => _
      | .inr r => _
    cases hm : pMems (mTT tx n) (N + 1) (800 * b + ks.length + (hdK hd.2).length) os.length 25 (hd.1, [], [], [], []) with
    | inl e =>
      rw [hm] at I
      obtain ⟨s2, j, x, i1, i2, i3, i4, i5⟩ := I
      refine ⟨s2, x, ?_, i3, i4, r1.tr i5⟩
      rw [e1, show mjN = (mjN - j) + j by omega]; exact i1 _
    | inr z =>
      rw [hm] at I
      obtain ⟨i1, i2, i3, i4, i5, i6, s2, j, W2, j1, j2, a2, rm2, y108, y120, q2, l2, r2⟩ := I
      have i2' : hd.1 ≤ z.1 := i2
      have i5' : 6 * z.2.2.2.1.length ≤ 6 * 0 + 7 * (z.1 - hd.1) := i5
      have i6' : 4 * z.2.2.1.length ≤ 4 * 0 + (z.1 - hd.1) := i6
      obtain ⟨qq, hqq⟩ : ∃ q, mjN = (q + 1 + 1) + j := ⟨mjN - j - 2, by omega⟩
      have e2 : mjF (D + 15) 267 [.ref 97] (mjW0 s) = lM D (qq + 1 + 1) C s2 := by
        rw [e1, hqq]; exact j1 _
      have r12 : offCl b C fm s s2 := r1.tr r2
      by_cases e125 : (mTT tx n z.1).1 = 125
      · simp only [if_pos e125]
        have hl := lt_N hN h0 i3 e125 (by decide)
        obtain ⟨s3, e3, a3, r3, f3⟩ := m_closes (d := D + 10) a2 (c := 125) (by decide) e125
        have q3 : ∀ x j, (100 ≤ x ∧ x ≤ 120) ∨ (123 ≤ x ∧ x ≤ 135) → s3.1 x j = s2.1 x j := fun x j e => r3.1 x j (by unfold chE; omega)
        have l3 : ∀ x j, (100 ≤ x ∧ x ≤ 120) ∨ (123 ≤ x ∧ x ≤ 135) → s3.2.1 x j = s2.2.1 x j := fun x j e => r3.2.1 x j (by unfold chEL; omega)
        refine ⟨by show k < z.1 + 1; omega, by show z.1 + 1 ≤ N; omega, by show 6 * z.2.2.2.1.length ≤ 7 * (z.1 + 1 - k); omega, ?_, g4, i4, s3, W2, ?_, ?_, ⟨?_, ?_, ?_⟩, ?_, ?_, r12.tr (offCl_E r3)⟩
        · show 4 * (hdK hd.2 ++ z.2.2.1).length ≤ z.1 + 1 - k
          rw [List.length_append]; omega
        · rw [e2]
          unfold lM
          rw [L267m_S]
          unfold b_267_371
          rw [xg_97_61, a2.2.1.2.1, if_pos rfl, xV_97, v_sign a2.at (c := 125) (by decide), bI_s, i01, if_pos e125]
          unfold b_267_395
          rw [xg_97_61, a2.2.1.2.1, if_pos rfl, xV_97, e3, bN_s]
        · rw [List.append_assoc] at a3; exact a3
        · obtain ⟨p1, p2, p3, p4, p5, p6, p7, p8, p9⟩ := rh
          refine ⟨?_, ?_, ⟨?_, fun j hj => ?_⟩, fun hz => ?_, fun hz => ?_, ⟨?_, fun j hj => ?_⟩, ?_, p8, p9⟩
          · rw [l3 101 _ (by omega), l2 101 _ (by omega), p1]
          · rw [q3 102 _ (by omega), q2 102 _ (by omega), p2]
          · rw [q3 104 _ (by omega), q2 104 _ (by omega)]; exact p3.1
          · rw [l3 111 _ (by omega), l2 111 _ (by omega), q3 112 _ (by omega), q2 112 _ (by omega)]; exact p3.2 j hj
          · rw [q3 103 _ (by omega), q2 103 _ (by omega), q3 105 _ (by omega), q2 105 _ (by omega)]; exact p4 hz
          · rw [q3 103 _ (by omega), q2 103 _ (by omega), q3 105 _ (by omega), q2 105 _ (by omega)]
            obtain ⟨c1, i, c2, c3⟩ := p5 hz
            refine ⟨c1, i, ?_, c3⟩
            show (ks ++ (hdK hd.2 ++ z.2.2.1))[i]? = _
            rw [← List.append_assoc]
            have hi := (List.getElem?_eq_some_iff.mp c2).1
            rw [List.getElem?_append_left hi]; exact c2
          · rw [q3 106 _ (by omega), q2 106 _ (by omega)]; exact p6.1
          · rw [l3 113 _ (by omega), l2 113 _ (by omega), q3 115 _ (by omega), q2 115 _ (by omega), l3 114 _ (by omega), l2 114 _ (by omega), q3 116 _ (by omega), q2 116 _ (by omega)]; exact p6.2 j hj
          · rw [q3 107 _ (by omega), q2 107 _ (by omega), p7]
        · rw [q3 108 _ (by omega), y108]
        · intro j md hj
          obtain ⟨⟨p1, p2, p3, p4⟩, p5, ⟨p6, p7⟩, p8, p9, p10⟩ := rm2 j md hj
          refine ⟨⟨by rw [q3 124 _ (by omega), p1], by rw [q3 126 _ (by omega), p2], by rw [q3 127 _ (by omega), p3], by rw [l3 132 _ (by omega), p4]⟩, by rw [q3 125 _ (by omega), p5], ⟨by rw [q3 128 _ (by omega), p6], fun i p hp => ?_⟩, by rw [q3 129 _ (by omega), p8], by rw [q3 131 _ (by omega), p9], p10⟩
          rw [q3 133 _ (by omega), q3 134 _ (by omega), l3 135 _ (by omega)]; exact p7 i p hp
        · rw [q3 100 _ (by omega), q2 100 _ (by omega), x100]
        · rw [q3 120 _ (by omega), y120]
      · simp only [if_neg e125]
        have n10 : ¬ (mTT tx n z.1).1 = 10 := fun q => i1 (by rw [q]; decide)
        have n2 : ¬ (mTT tx n z.1).1 = 2 := fun q => i1 (by rw [q]; decide)
        have z3 := m_wz a2
        refine ⟨_, _, ?_, z3, ?_, r12.tr (offCl_E (bS_off _ _))⟩
        · rw [e2]
          unfold lM
          rw [L267m_S]
          unfold b_267_371
          rw [xg_97_61, a2.2.1.2.1, if_pos rfl, xV_97, v_sign a2.at (c := 125) (by decide), bI_s, i01, if_neg e125, xV_97, e_275]
          unfold f_275 b_275_0
          rw [xV_97, v_type a2.at, bI_s, i01, if_neg i1, xV_97, m_wrong a2, bN_s, bN_s, L267m_S]
          unfold b_267_371
          rw [xg_97_61, if_neg z3.n0]
          unfold b_267_395
          rw [xg_97_61, if_neg z3.n0]
        · rw [List.length_append]; omega
end MJ99
end
section
/-! ===== the reference: readAll ===== -/
theorem nI_srj (v : Int32) : ∃ m, v = nI m := by
  refine ⟨v.toBitVec.toNat, ?_⟩
  apply Int32.toBitVec_inj.mp
  simp [nI]
def RCs (T : TT) (b : Nat) (s : mjSt3) (ks : List Nat) (L : List CD) : Prop := s.1 100 b = nI L.length ∧ s.1 120 b = nI (nMem L) ∧ ∀ c E, L[c]? = some E → RC T b s ks (16 * b + c) (nMem (L.take c)) E
def chRd (b h j : Nat) : Prop := chS b h j ∨ (h = 97 ∧ (j = 65 ∨ j = 66)) ∨ ((h = 100 ∨ h = 120 ∨ h = 123) ∧ j = b) ∨ (102 ≤ h ∧ h ≤ 108 ∧ 16 * b ≤ j ∧ j < 16 * b + 16) ∨ (h = 112 ∧ 80 * b ≤ j ∧ j < 80 * b + 80) ∨ ((h = 115 ∨ h = 116) ∧ 128 * b ≤ j ∧ j < 128 * b + 128) ∨ (124 ≤ h ∧ h ≤ 131 ∧ 400 * b ≤ j ∧ j < 400 * b + 400) ∨ ((h = 133 ∨ h = 134) ∧ 2400 * b ≤ j ∧ j < 2400 * b + 2400)
def chRdL (b h j : Nat) : Prop := chEL b h j ∨ (h = 101 ∧ 16 * b ≤ j ∧ j < 16 * b + 16) ∨ (h = 111 ∧ 80 * b ≤ j ∧ j < 80 * b + 80) ∨ ((h = 113 ∨ h = 114) ∧ 128 * b ≤ j ∧ j < 128 * b + 128) ∨ (h = 132 ∧ 400 * b ≤ j ∧ j < 400 * b + 400) ∨ (h = 135 ∧ 2400 * b ≤ j ∧ j < 2400 * b + 2400)
def offRd (b : Nat) : mjSt3 → mjSt3 → Prop := offG (chRd b) (chRdL b)
noncomputable def lC (D m : Nat) (s : mjSt3) : mjU := L_261_54 (mjF (D + 15)) m 97 (mjW0 s)
theorem L261_S (R : mjR) (m a : Nat) (hp : mjH) : L_261_54 R (m + 1) a hp = b_261_54 R (L_261_54 R m) a hp := rfl
section MJA0
variable {tx : Nat → Int32} {n b D k o N C ci fm : Nat} {s s' : mjSt3} {W : List WF} {os : List Row} {ks : List Nat}
theorem offRd_S (h : offS b s s') : offRd b s s' := offG.mono h (fun _ _ q => Or.inl q) (fun _ _ q => Or.inl q)
theorem offRd_Cl (h : offCl b (16 * b + ci) fm s s') (h1 : ci < 16 ∨ ci = 16) (hc : ci < 16) : offRd b s s' := offG.mono h (fun x y q => by
  rcases q with q | q | q | q | q | q | q | q
  · exact Or.inl q
  · exact Or.inr (Or.inl q)
  · exact Or.inr (Or.inr (Or.inl ⟨q.1.elim Or.inl (fun e => Or.inr (Or.inl e)), q.2⟩))
  · exact Or.inr (Or.inr (Or.inr (Or.inl ⟨q.1, q.2.1, by omega, by omega⟩)))
  · exact Or.inr (Or.inr (Or.inr (Or.inr (Or.inl ⟨q.1, by omega, by omega⟩))))
  · exact Or.inr (Or.inr (Or.inr (Or.inr (Or.inr (Or.inl ⟨q.1, by omega, by omega⟩)))))
  · exact Or.inr (Or.inr (Or.inr (Or.inr (Or.inr (Or.inr (Or.inl ⟨q.1, q.2.1, by omega, by omega⟩))))))
  · exact Or.inr (Or.inr (Or.inr (Or.inr (Or.inr (Or.inr (Or.inr (⟨q.1, by omega, by omega⟩)))))))) (fun x y q => by
  rcases q with q | q | q | q | q | q
  · exact Or.inl q
  · exact Or.inr (Or.inl ⟨q.1, by omega, by omega⟩)
  · exact Or.inr (Or.inr (Or.inl ⟨q.1, by omega, by omega⟩))
  · exact Or.inr (Or.inr (Or.inr (Or.inl ⟨q.1, by omega, by omega⟩)))
  · exact Or.inr (Or.inr (Or.inr (Or.inr (Or.inl ⟨q.1, by omega, by omega⟩))))
  · exact Or.inr (Or.inr (Or.inr (Or.inr (Or.inr (⟨q.1, by omega, by omega⟩))))))
/-- another CLASS's rows stay -/
theorem RC.off {T : TT} {C' fm' : Nat} {E : CD} {ks' : List Nat} (hb : b ≤ 1) (h : RC T b s ks C' fm' E) (r : offCl b C fm s s') (ne : ¬ C' = C) (hm : fm' + E.2.length ≤ fm) : RC T b s' (ks ++ ks') C' fm' E := by
  obtain ⟨⟨p1, p2, p3, p4, p5, p6, p7, p8, p9⟩, q1, q2⟩ := h
  have q : ∀ x, 102 ≤ x → x ≤ 108 → s'.1 x C' = s.1 x C' := fun x e e' => r.1 x C' (by unfold chCl chS chE; omega)
  refine ⟨⟨?_, ?_, ⟨?_, fun j hj => ?_⟩, fun hz => ?_, fun hz => ?_, ⟨?_, fun j hj => ?_⟩, ?_, p8, p9⟩, ?_, fun j md hj => ?_⟩
  · rw [r.2.1 101 _ (by unfold chClL chEL; omega), p1]
  · rw [q 102 (by omega) (by omega), p2]
  · rw [q 104 (by omega) (by omega)]; exact p3.1
  · rw [r.2.1 111 _ (by unfold chClL chEL; omega), r.1 112 _ (by unfold chCl chS chE; omega)]; exact p3.2 j hj
  · rw [q 103 (by omega) (by omega), q 105 (by omega) (by omega)]; exact p4 hz
  · rw [q 103 (by omega) (by omega), q 105 (by omega) (by omega)]
    obtain ⟨c1, i, c2, c3⟩ := p5 hz
    have hi := (List.getElem?_eq_some_iff.mp c2).1
    exact ⟨c1, i, by rw [List.getElem?_append_left hi]; exact c2, c3⟩
  · rw [q 106 (by omega) (by omega)]; exact p6.1
  · rw [r.2.1 113 _ (by unfold chClL chEL; omega), r.1 115 _ (by unfold chCl chS chE; omega), r.2.1 114 _ (by unfold chClL chEL; omega), r.1 116 _ (by unfold chCl chS chE; omega)]; exact p6.2 j hj
  · rw [q 107 (by omega) (by omega), p7]
  · rw [q 108 (by omega) (by omega), q1]
  · have hj' := (List.getElem?_eq_some_iff.mp hj).1
    obtain ⟨⟨p1, p2, p3, p4⟩, p5, ⟨p6, p7⟩, p8, p9, p10⟩ := q2 j md hj
    have w : ∀ x, 124 ≤ x → x ≤ 131 → s'.1 x (400 * b + (fm' + j)) = s.1 x (400 * b + (fm' + j)) := fun x e e' => r.1 x _ (by unfold chCl chS chE; omega)
    refine ⟨⟨by rw [w 124 (by omega) (by omega), p1], by rw [w 126 (by omega) (by omega), p2], by rw [w 127 (by omega) (by omega), p3], by rw [r.2.1 132 _ (by unfold chClL chEL; omega), p4]⟩, by rw [w 125 (by omega) (by omega), p5], ⟨by rw [w 128 (by omega) (by omega), p6], fun i p hp => ?_⟩, by rw [w 129 (by omega) (by omega), p8], by rw [w 131 (by omega) (by omega), p9], p10⟩
    have hi := (List.getElem?_eq_some_iff.mp hp).1
    rw [r.1 133 _ (by unfold chCl chS chE; omega), r.1 134 _ (by unfold chCl chS chE; omega), r.2.1 135 _ (by unfold chClL chEL; omega)]; exact p7 i p hp
theorem nMem_snoc (L : List CD) (E : CD) : nMem (L ++ [E]) = nMem L + E.2.length := by
  unfold nMem
  simp
theorem nMem_le : ∀ (L : List CD), (∀ (c : Nat) (E : CD), L[c]? = some E → E.2.length ≤ 24) → nMem L ≤ 24 * L.length
  | [], _ => by show 0 ≤ 0; omega
  | E :: L, h => by
    have h1 := nMem_le L (fun c F hF => h (c + 1) F hF)
    have h2 := h 0 E rfl
    have e : nMem (E :: L) = E.2.length + nMem L := by unfold nMem; simp
    rw [e, List.length_cons]; omega
theorem all_bad {T : TT} {e : Nat × Nat} {x q : Nat} (z : MZ T b s e x) : lC D (q + 1) s = some (none, mjW0 s) := by
  unfold lC
  rw [L261_S]
  unfold b_261_54
  rw [xg_97_61, if_neg z.n0]
  unfold b_261_76
  rw [xg_97_61, if_neg z.pos]
theorem m_cl16 (h : MR tx n b s k o W os ks) (h100 : s.1 100 b = nI 16) : mjF (D + 15) 267 [.ref 97] (mjW0 s) = some (none, mjW0 (bS s (nI 3) (mTT tx n k).2.1)) := by
  have hb := h.2.1.1
  rw [e_267]
  unfold f_267 b_267_0
  rw [xg_97_63, h.2.1.2.2.1, xg_97_11, xg_97_63, h.2.1.2.2.1, xa_100, if_pos (mj_in_nI (by omega) (by decide)), nI_clamp (by omega), h100, xg_97_11, xg_97_63, h.2.1.2.2.1, xa_100, if_pos (mj_in_nI (by omega) (by decide)), nI_clamp (by omega), h100, if_pos (show nI 16 = 16 from rfl), xg_97_4, h.at.2.2.1, xV_97, v_fail h.2.1.2.1, bN_s]
  rfl
/-- CLASSES -/
theorem cls_ok (h0 : (mTT tx n N).1 = 0) (hN : N ≤ 3000) : ∀ (f : Nat) (z : PC) (s : mjSt3) (W : List WF), f + z.2.1.length = 17 → z.2.1.length ≤ 16 → z.1 ≤ N → 6 * z.2.2.2.1.length ≤ 7 * z.1 → 4 * z.2.2.1.length ≤ z.1 → (∀ (c : Nat) (E : CD), z.2.1[c]? = some E → E.2.length ≤ 24) → MR tx n b s z.1 0 W z.2.2.2.1 z.2.2.1 → RCs (mTT tx n) b s z.2.2.1 z.2.1 → match pClasses (mTT tx n) (N + 1) (800 * b) f z with
    | .inl e => ∃ s' j x, (∀ q, lC D (q + j) s = some (none, mjW0 s')) ∧ j ≤ f + 2 ∧ MZ (mTT tx n) b s' e x ∧ offRd b s s'
    | .inr y => ¬ (mTT tx n y.1).1 = 5 ∧ y.1 ≤ N ∧ y.2.1.length ≤ 16 ∧ 6 * y.2.2.2.1.length ≤ 7 * y.1 ∧ 4 * y.2.2.1.length ≤ y.1 ∧ (∀ (c : Nat) (E : CD), y.2.1[c]? = some E → E.2.length ≤ 24) ∧ ∃ s' j W', (∀ q, lC D (q + j) s = lC D q s') ∧ j ≤ f + 2 ∧ MR tx n b s' y.1 0 W' y.2.2.2.1 y.2.2.1 ∧ RCs (mTT tx n) b s' y.2.2.1 y.2.1 ∧ offRd b s s'
  | 0, z, s, W, hf, hl, _, _, _, _, _, _ => by omega
  | f + 1, z, s, W, hf, hl, hz, hos, hks, h24, a, rc => by
    have hb := a.2.1.1
    unfold pClasses
    have w5 : mjF (D + 15) 266 [.ref 97, .int 1] (mjW0 s) = _ := v_word (d := D + 14) a.at (w := 0) (by decide)
    rw [show nI (0 + 5) = 5 from rfl] at w5
    by_cases e5 : (mTT tx n z.1).1 = 5
    · rw [if_pos e5]
      have hfm := nMem_le z.2.1 h24
      have G := m_class (D := D) (ci := z.2.1.length) (fm := nMem z.2.1) h0 hN hl (by omega) hz hos hks a e5 rc.1 rc.2.1
      have pre : ∀ q, lC D (q + 1) s = bN (mjF (D + 15) 267 [.ref 97] (mjW0 s)) (fun hp4 => L_261_54 (mjF (D + 15)) q 97 hp4) := by
        intro q
        unfold lC
        rw [L261_S]
        unfold b_261_54
        rw [xg_97_61, a.2.1.2.1, if_pos rfl, xV_97, w5, bI_s, i01, if_pos e5, xV_97]
      by_cases e16 : z.2.1.length = 16
      · have ep : pClass (mTT tx n) (N + 1) z.2.1.length z.1 (800 * b + z.2.2.1.length) z.2.2.2.1.length = .inl (3, z.1) := by
          unfold pClass pHead
          rw [if_pos e16]
        rw [ep]
        have z1 := a.z (e := (3, z.1)) (Or.inr (Or.inr rfl))
        refine ⟨_, 2, _, fun q => ?_, by omega, z1, offRd_S (offS_of (bS_off _ _))⟩
        rw [show q + 2 = (q + 1) + 1 by omega, pre, m_cl16 a (by rw [rc.1, e16]), bN_s]
        exact all_bad (D := D) z1
      cases hc : pClass (mTT tx n) (N + 1) z.2.1.length z.1 (800 * b + z.2.2.1.length) z.2.2.2.1.length with
      | inl e =>
        rw [hc] at G
        obtain ⟨s1, x, e1, z1, hx, r1⟩ := G
        refine ⟨s1, 2, x, fun q => ?_, by omega, z1, ?_⟩
        · rw [show q + 2 = (q + 1) + 1 by omega, pre, e1, bN_s]
          exact all_bad (D := D) z1
        · exact offRd_Cl r1 (by omega) (by omega)
      | inr r =>
        rw [hc] at G
        obtain ⟨g1, g2, g3, g4, g5, g6, s1, W1, e1, a1, rc1, x1, x2, r1⟩ := G
        have pl : (z.2.1 ++ [r.2.1]).length = z.2.1.length + 1 := by rw [List.length_append, List.length_singleton]
        have rcs : RCs (mTT tx n) b s1 (z.2.2.1 ++ r.2.2.1) (z.2.1 ++ [r.2.1]) := by
          refine ⟨by rw [x1, pl], by rw [x2, nMem_snoc], fun c E hE => ?_⟩
          by_cases e : c = z.2.1.length
          · subst e
            rw [List.getElem?_append_right (Nat.le_refl _), Nat.sub_self] at hE
            have em : r.2.1 = E := by simpa using hE
            subst em
            rw [List.take_append_of_le_length (Nat.le_refl _), List.take_length]
            exact rc1
          · have hc' : c < z.2.1.length := by
              have := (List.getElem?_eq_some_iff.mp hE).1
              omega
            rw [List.getElem?_append_left hc'] at hE
            rw [List.take_append_of_le_length (by omega)]
            exact RC.off hb (rc.2.2 c E hE) r1 (by omega) (nMem_take hE)
        have h24' : ∀ (c : Nat) (E : CD), (z.2.1 ++ [r.2.1])[c]? = some E → E.2.length ≤ 24 := by
          intro c E hE
          by_cases e : c = z.2.1.length
          · subst e
            rw [List.getElem?_append_right (Nat.le_refl _), Nat.sub_self] at hE
            have em : r.2.1 = E := by simpa using hE
            subst em
            exact g6
          · have hc' : c < z.2.1.length := by
              have := (List.getElem?_eq_some_iff.mp hE).1
              omega
            rw [List.getElem?_append_left hc'] at hE
            exact h24 c E hE
        have I := cls_ok h0 hN f (r.1, z.2.1 ++ [r.2.1], z.2.2.1 ++ r.2.2.1, z.2.2.2.1 ++ r.2.2.2.1, z.2.2.2.2 ++ r.2.2.2.2) s1 W1 (by show f + (z.2.1 ++ [r.2.1]).length = 17; omega) (by show (z.2.1 ++ [r.2.1]).length ≤ 16; omega) g2 (by show 6 * (z.2.2.2.1 ++ r.2.2.2.1).length ≤ 7 * r.1; rw [List.length_append]; omega) (by show 4 * (z.2.2.1 ++ r.2.2.1).length ≤ r.1; rw [List.length_append]; omega) h24' a1 rcs
        have r1c : offRd b s s1 := offRd_Cl r1 (by omega) (by omega)
        have step : ∀ q, lC D (q + 1) s = lC D q s1 := fun q => by rw [pre, e1, bN_s]; rfl
        show match pClasses (mTT tx n) (N + 1) (800 * b) f (r.1, z.2.1 ++ [r.2.1], z.2.2.1 ++ r.2.2.1, z.2.2.2.1 ++ r.2.2.2.1, z.2.2.2.2 ++ r.2.2.2.2) with
          | .inl e => _
          | .inr y => _
        cases hp : pClasses (mTT tx n) (N + 1) (800 * b) f (r.1, z.2.1 ++ [r.2.1], z.2.2.1 ++ r.2.2.1, z.2.2.2.1 ++ r.2.2.2.1, z.2.2.2.2 ++ r.2.2.2.2) with
        | inl e =>
          rw [hp] at I
          obtain ⟨s2, j, x, i1, i2, i3, i5⟩ := I
          exact ⟨s2, j + 1, x, fun q => by rw [← Nat.add_assoc, step]; exact i1 q, by omega, i3, r1c.tr i5⟩
        | inr y =>
          rw [hp] at I
          obtain ⟨i1, i2, i3, i4, i5, i6, s2, j, W2, j1, j2, j3, j4, j5⟩ := I
          exact ⟨i1, i2, i3, i4, i5, i6, s2, j + 1, W2, fun q => by rw [← Nat.add_assoc, step]; exact j1 q, by omega, j3, j4, r1c.tr j5⟩
    · rw [if_neg e5]
      exact ⟨e5, hz, hl, hos, hks, h24, s, 0, W, fun q => rfl, by omega, a, rc, offG.rf⟩
/-- readAll's last part -/
theorem m_main (h0 : (mTT tx n N).1 = 0) (hN : N ≤ 3000) (hk : k ≤ N) (hos : 6 * os.length ≤ 7 * k) (hks : 4 * ks.length ≤ k) (h : MR tx n b s k 0 W os ks) (n5 : ¬ (mTT tx n k).1 = 5) (q : Nat) : ((mTT tx n k).1 = 9 → match prS (mTT tx n) (N + 1) 30 0 0 (k + 1) 0 (800 * b + ks.length) os.length with
      | .inl e => ∃ s' x, lC D (q + 1) s = some (none, mjW0 s') ∧ MZ (mTT tx n) b s' e x ∧ offRd b s s'
      | .inr z => ((mTT tx n z.1).1 = 0 → bB N (k + 1) z ∧ ∃ s' W', lC D (q + 1) s = some (none, mjW0 s') ∧ MR tx n b s' z.1 0 W' (os ++ (z.2.2.2.1 ++ [oOver])) (ks ++ z.2.2.1) ∧ s'.1 123 b = nI os.length ∧ s'.1 97 67 = nI z.2.1 ∧ (∀ x j, (100 ≤ x ∧ x ≤ 120) ∨ (124 ≤ x ∧ x ≤ 135) → s'.1 x j = s.1 x j) ∧ (∀ x j, (100 ≤ x ∧ x ≤ 120) ∨ (123 ≤ x ∧ x ≤ 135) → s'.2.1 x j = s.2.1 x j) ∧ offRd b s s') ∧ (¬ (mTT tx n z.1).1 = 0 → ∃ s' x, lC D (q + 1) s = some (none, mjW0 s') ∧ MZ (mTT tx n) b s' (F2 (mTT tx n) z.1) x ∧ offRd b s s')) ∧ (¬ (mTT tx n k).1 = 9 → ∃ s' x, lC D (q + 1) s = some (none, mjW0 s') ∧ MZ (mTT tx n) b s' (F2 (mTT tx n) k) x ∧ offRd b s s') := by
  have hb := h.2.1.1
  have w5 : mjF (D + 15) 266 [.ref 97, .int 1] (mjW0 s) = _ := v_word (d := D + 14) h.at (w := 0) (by decide)
  rw [show nI (0 + 5) = 5 from rfl] at w5
  have w9 : mjF (D + 15) 266 [.ref 97, .int 5] (mjW0 s) = _ := v_word (d := D + 14) h.at (w := 4) (by decide)
  rw [show nI (4 + 5) = 9 from rfl] at w9
  have pre : lC D (q + 1) s = if (mTT tx n k).1 = 9 then bN (mjF (D + 15) 262 [.ref 97] (mjW0 s)) (fun hp4 => pI hp4 97 12 66 (-1 : Int32) (fun hp5 => pI hp5 97 12 67 (0 : Int32) (fun hp6 => gR hp6 97 12 34 (fun v7 => gI hp6 97 12 63 (fun v8 => gR hp6 97 12 33 (fun v9 => gI hp6 97 12 63 (fun v10 => aI hp6 v9 v10 (fun v11 => sI hp6 v7 v8 v11 (fun hp12 => rV hp12 97 12 (bN (mjF (D + 15) 279 [.ref 97] hp12) (fun hp13 => gI hp13 97 12 61 (fun v14 => (if v14 = 0 then gI hp13 97 12 3 (fun v15 => (if v15 = 0 then some (none, hp13) else rV hp13 97 12 (bN (mjF (D + 15) 269 [.ref 97] hp13) (fun hp16 => some (none, hp16))))) else some (none, hp13)))))))))))))) else bN (mjF (D + 15) 269 [.ref 97] (mjW0 s)) (fun hp17 => some (none, hp17)) := by
    unfold lC
    rw [L261_S]
    unfold b_261_54
    rw [xg_97_61, h.2.1.2.1, if_pos rfl, xV_97, w5, bI_s, i01, if_neg n5]
    unfold b_261_76
    rw [xg_97_61, h.2.1.2.1, if_pos (show (0 : Int32) ≤ 0 by decide), xV_97, w9, bI_s, i01, xV_97, xV_97]
  refine ⟨fun e9 => ?_, fun e9 => ?_⟩
  · have hl := lt_N hN h0 hk e9 (by decide)
    obtain ⟨s1, e1, a1, r1, f1⟩ := m_next (d := D + 12) h (by rw [e9]; decide)
    obtain ⟨t2, h2⟩ : ∃ t, t = uI s1 97 (upd (s1.1 97) 66 (-1)) := ⟨_, rfl⟩
    have k2 : offG chRow chRowL s1 t2 := by rw [h2]; exact offG.w (by unfold chRow; omega)
    have o2 : offRd b s1 t2 := by rw [h2]; exact offG.w (by unfold chRd; omega)
    obtain ⟨t3, h3⟩ : ∃ t, t = uI t2 97 (upd (t2.1 97) 67 0) := ⟨_, rfl⟩
    have k3 : offG chRow chRowL t2 t3 := by rw [h3]; exact offG.w (by unfold chRow; omega)
    have o3 : offRd b t2 t3 := by rw [h3]; exact offG.w (by unfold chRd chS; omega)
    obtain ⟨t4, h4⟩ : ∃ t, t = uI t3 123 (upd (t3.1 123) b (nI os.length)) := ⟨_, rfl⟩
    have k4 : offG chRow chRowL t3 t4 := by rw [h4]; exact offG.w (by unfold chRow; omega)
    have o4 : offRd b t3 t4 := by rw [h4]; exact offG.w (by unfold chRd; omega)
    have a3 := (a1.keep k2).keep k3
    have a4 := a3.keep k4
    have t67 : t4.1 97 67 = nI 0 := by rw [h4, uI_ne _ _ _ _ (by decide), h3, uI_same]; exact if_pos rfl
    have B := m_body (D := D + 2) h0 hN (show 0 ≤ 12 by omega) hl (show 6 * os.length ≤ 7 * (k + 1) by omega) (show 4 * ks.length ≤ k + 1 by omega) (show 0 ≤ 16 by omega) a4 t67
    have r04 : offRd b s t4 := (offRd_S (offS_of r1)).tr (o2.tr (o3.tr o4))
    have pre2 : lC D (q + 1) s = bN (mjF (D + 15) 279 [.ref 97] (mjW0 t4)) (fun hp13 => gI hp13 97 12 61 (fun v14 => (if v14 = 0 then gI hp13 97 12 3 (fun v15 => (if v15 = 0 then some (none, hp13) else rV hp13 97 12 (bN (mjF (D + 15) 269 [.ref 97] hp13) (fun hp16 => some (none, hp16))))) else some (none, hp13)))) := by
      rw [pre, if_pos e9, e1, bN_s, xp_97_66, ← h2, xp_97_67, ← h3, xg_97_34, xg_97_63, a3.2.1.2.2.1, xg_97_33, xg_97_63, a3.2.1.2.2.1, xa_122, if_pos (mj_in_nI (by omega) (by decide)), nI_clamp (by omega), a3.2.2.2.1.1, xs_123, if_pos (mj_in_nI (by omega) (by decide)), nI_clamp (by omega), ← h4, xV_97]
    cases hp : prS (mTT tx n) (N + 1) 30 0 0 (k + 1) 0 (800 * b + ks.length) os.length with
    | inl e =>
      rw [hp] at B
      obtain ⟨s5, x, e5, z5, hx, r5⟩ := B
      exact ⟨s5, x, by rw [pre2, e5, bN_s, xg_97_61, if_neg z5.n0], z5, r04.tr (offRd_S r5)⟩
    | inr z =>
      rw [hp] at B
      obtain ⟨bb, s5, W5, e5, a5, f5, r5⟩ := B
      have S0 := (v_srt a5.at).2.2.2.2
      refine ⟨fun hz => ⟨bb, s5, W5, ?_, a5, ?_, f5, fun x j e => ?_, fun x j e => ?_, r04.tr (offRd_S r5)⟩, fun hz => ⟨_, _, ?_, m_wz a5, r04.tr ((offRd_S r5).tr (offRd_S (offS_of (bS_off _ _))))⟩⟩
      · rw [pre2, e5, bN_s, xg_97_61, a5.2.1.2.1, if_pos rfl, xg_97_3, if_pos (S0.mpr hz)]
      · rw [r5.1 123 b (by unfold chS chE; omega), h4, uI_same]; exact if_pos rfl
      · rw [r5.1 x j (by unfold chS chE; omega), h4, uI_ne _ _ _ _ (by omega), h3, uI_ne _ _ _ _ (by omega), h2, uI_ne _ _ _ _ (by omega), r1.1 x j (by unfold chE; omega)]
      · rw [r5.2.1 x j (by unfold chEL; omega), h4, h3, h2]
        exact r1.2.1 x j (by unfold chEL; omega)
      · rw [pre2, e5, bN_s, xg_97_61, a5.2.1.2.1, if_pos rfl, xg_97_3, if_neg (fun y => hz (S0.mp y)), xV_97, m_wrong a5, bN_s]
  · exact ⟨_, _, by rw [pre, if_neg e9, m_wrong h, bN_s], m_wz h, offRd_S (offS_of (bS_off _ _))⟩
theorem RC.q {T : TT} {C fm : Nat} {E : CD} {ks' : List Nat} (h : RC T b s ks C fm E) (q : ∀ x j, (100 ≤ x ∧ x ≤ 120) ∨ (124 ≤ x ∧ x ≤ 135) → s'.1 x j = s.1 x j) (l : ∀ x j, (100 ≤ x ∧ x ≤ 120) ∨ (123 ≤ x ∧ x ≤ 135) → s'.2.1 x j = s.2.1 x j) : RC T b s' (ks ++ ks') C fm E := by
  obtain ⟨⟨p1, p2, p3, p4, p5, p6, p7, p8, p9⟩, q1, q2⟩ := h
  refine ⟨⟨?_, ?_, ⟨?_, fun j hj => ?_⟩, fun hz => ?_, fun hz => ?_, ⟨?_, fun j hj => ?_⟩, ?_, p8, p9⟩, ?_, fun j md hj => ?_⟩
  · rw [l 101 _ (by omega), p1]
  · rw [q 102 _ (by omega), p2]
  · rw [q 104 _ (by omega)]; exact p3.1
  · rw [l 111 _ (by omega), q 112 _ (by omega)]; exact p3.2 j hj
  · rw [q 103 _ (by omega), q 105 _ (by omega)]; exact p4 hz
  · rw [q 103 _ (by omega), q 105 _ (by omega)]
    obtain ⟨c1, i, c2, c3⟩ := p5 hz
    have hi := (List.getElem?_eq_some_iff.mp c2).1
    exact ⟨c1, i, by rw [List.getElem?_append_left hi]; exact c2, c3⟩
  · rw [q 106 _ (by omega)]; exact p6.1
  · rw [l 113 _ (by omega), q 115 _ (by omega), l 114 _ (by omega), q 116 _ (by omega)]; exact p6.2 j hj
  · rw [q 107 _ (by omega), p7]
  · rw [q 108 _ (by omega), q1]
  · obtain ⟨⟨p1, p2, p3, p4⟩, p5, ⟨p6, p7⟩, p8, p9, p10⟩ := q2 j md hj
    refine ⟨⟨by rw [q 124 _ (by omega), p1], by rw [q 126 _ (by omega), p2], by rw [q 127 _ (by omega), p3], by rw [l 132 _ (by omega), p4]⟩, by rw [q 125 _ (by omega), p5], ⟨by rw [q 128 _ (by omega), p6], fun i p hp => ?_⟩, by rw [q 129 _ (by omega), p8], by rw [q 131 _ (by omega), p9], p10⟩
    rw [q 133 _ (by omega), q 134 _ (by omega), l 135 _ (by omega)]; exact p7 i p hp
/-- readAll -/
theorem m_all (h0 : (mTT tx n N).1 = 0) (hN : N ≤ 3000) (hm : MB tx n s) (hb : b ≤ 1) (h61 : s.1 97 61 = 0) (h63 : s.1 97 63 = nI b) : match pText (mTT tx n) (N + 1) (800 * b) with
    | .inl e => ∃ s' x, mjF (D + 16) 261 [.ref 97] (mjW0 s) = some (none, mjW0 s') ∧ MZ (mTT tx n) b s' e x ∧ offRd b s s'
    | .inr t => ∃ s' W' c, mjF (D + 16) 261 [.ref 97] (mjW0 s) = some (none, mjW0 s') ∧ MR tx n b s' c 0 W' t.2.2.2.1 t.2.2.1 ∧ RCs (mTT tx n) b s' t.2.2.1 t.1 ∧ s'.1 123 b = nI t.2.2.2.2.2 ∧ t.1.length ≤ 16 ∧ (∀ (c : Nat) (E : CD), t.1[c]? = some E → E.2.length ≤ 24) ∧ 6 * t.2.2.2.1.length ≤ 7 * N + 6 ∧ 4 * t.2.2.1.length ≤ N ∧ t.2.1.2 ≤ 16 ∧ offRd b s s' := by
  have hmj := mjN_v
  obtain ⟨u1, g1⟩ : ∃ t, t = uI s 100 (upd (s.1 100) b 0) := ⟨_, rfl⟩
  obtain ⟨u2, g2⟩ : ∃ t, t = uI u1 120 (upd (u1.1 120) b 0) := ⟨_, rfl⟩
  obtain ⟨u3, g3⟩ : ∃ t, t = uI u2 121 (upd (u2.1 121) b 0) := ⟨_, rfl⟩
  obtain ⟨u4, g4⟩ : ∃ t, t = uI u3 122 (upd (u3.1 122) b 0) := ⟨_, rfl⟩
  obtain ⟨u5, g5⟩ : ∃ t, t = uI u4 97 (upd (u4.1 97) 64 0) := ⟨_, rfl⟩
  obtain ⟨u6, g6⟩ : ∃ t, t = uI u5 97 (upd (u5.1 97) 5 0) := ⟨_, rfl⟩
  have v1 : ∀ x, ¬ x = 100 → u1.1 x = s.1 x := fun x e => by rw [g1]; exact uI_ne _ _ _ _ e
  have v2 : ∀ x, ¬ x = 120 → u2.1 x = u1.1 x := fun x e => by rw [g2]; exact uI_ne _ _ _ _ e
  have v3 : ∀ x, ¬ x = 121 → u3.1 x = u2.1 x := fun x e => by rw [g3]; exact uI_ne _ _ _ _ e
  have v4 : ∀ x, ¬ x = 122 → u4.1 x = u3.1 x := fun x e => by rw [g4]; exact uI_ne _ _ _ _ e
  have v5 : ∀ x, ¬ x = 97 → u5.1 x = u4.1 x := fun x e => by rw [g5]; exact uI_ne _ _ _ _ e
  have v6 : ∀ x, ¬ x = 97 → u6.1 x = u5.1 x := fun x e => by rw [g6]; exact uI_ne _ _ _ _ e
  have w4 : u4.1 97 = s.1 97 := by rw [v4 97 (by decide), v3 97 (by decide), v2 97 (by decide), v1 97 (by decide)]
  have w5 : ∀ j, ¬ j = 64 → u5.1 97 j = s.1 97 j := fun j e => by rw [g5, uI_same, w4]; exact if_neg e
  have w6 : ∀ j, ¬ j = 64 → ¬ j = 5 → u6.1 97 j = s.1 97 j := fun j e e' => by rw [g6, uI_same, upd_g, if_neg e', w5 j e]
  have l6 : u6.2 = s.2 := by rw [g6, g5, g4, g3, g2, g1]; rfl
  have m6 : MB tx n u6 := by
    obtain ⟨p1, p2, p3, p4, p5⟩ := hm
    refine ⟨p1, by rw [w6 2 (by decide) (by decide), p2], ?_, p4, fun i hi => by rw [l6]; exact p5 i hi⟩
    rw [v6 98 (by decide), v5 98 (by decide), v4 98 (by decide), v3 98 (by decide), v2 98 (by decide), v1 98 (by decide), p3]
  have z5 : u6.1 97 5 = 0 := by rw [g6, uI_same]; exact if_pos rfl
  have z64 : u6.1 97 64 = 0 := by rw [g6, uI_same, upd_g, if_neg (by decide), g5, uI_same]; exact if_pos rfl
  have z100 : u6.1 100 b = 0 := by rw [v6 _ (by decide), v5 _ (by decide), v4 _ (by decide), v3 _ (by decide), v2 _ (by decide), g1, uI_same]; exact if_pos rfl
  have z120 : u6.1 120 b = 0 := by rw [v6 _ (by decide), v5 _ (by decide), v4 _ (by decide), v3 _ (by decide), g2, uI_same]; exact if_pos rfl
  have z121 : u6.1 121 b = 0 := by rw [v6 _ (by decide), v5 _ (by decide), v4 _ (by decide), g3, uI_same]; exact if_pos rfl
  have z122 : u6.1 122 b = 0 := by rw [v6 _ (by decide), v5 _ (by decide), g4, uI_same]; exact if_pos rfl
  have o6 : offRd b s u6 := by
    rw [g6, g5, g4, g3, g2, g1]
    exact (((offG.w (by unfold chRd; omega)).tr (offG.w (h := 120) (by unfold chRd; omega))).tr (offG.w (h := 121) (by unfold chRd chS chE; omega))).tr (((offG.w (h := 122) (by unfold chRd chS chE; omega)).tr (offG.w (h := 97) (j := 64) (by unfold chRd chS chE; omega))).tr (offG.w (h := 97) (j := 5) (by unfold chRd chS chE; omega)))
  obtain ⟨s1, e1, t1, r1⟩ := x_mt0 (d := D + 12) m6 z5
  have q97 : ∀ j, ¬ j = 3 → ¬ j = 4 → ¬ j = 5 → ¬ j = 6 → s1.1 97 j = u6.1 97 j := r1.2.1
  have qx : ∀ x, ¬ x = 97 → s1.1 x = u6.1 x := r1.1
  obtain ⟨mw, hmw⟩ := nI_srj (s1.1 97 76)
  obtain ⟨W, hW⟩ : ∃ W : List WF, W = (List.range mw).map (fun i => (s1.1 151 i, s1.1 152 i, s1.1 153 i, s1.1 154 i, s1.1 182 i)) := ⟨_, rfl⟩
  have a1 : MR tx n b s1 0 0 W [] [] := by
    refine ⟨⟨m6.off r1, t1⟩, ⟨hb, ?_, ?_, ?_⟩, ⟨?_, fun i f hf => ?_⟩, ⟨?_, fun i x hx => by cases hx⟩, ?_, fun i t ht => by cases ht⟩
    · rw [q97 61 (by decide) (by decide) (by decide) (by decide), w6 61 (by decide) (by decide), h61]
    · rw [q97 63 (by decide) (by decide) (by decide) (by decide), w6 63 (by decide) (by decide), h63]
    · rw [q97 64 (by decide) (by decide) (by decide) (by decide), z64]; rfl
    · rw [hmw, hW, List.length_map, List.length_range]
    · rw [hW, List.getElem?_map] at hf
      by_cases hi : i < mw
      · rw [List.getElem?_range hi] at hf
        have ef : (s1.1 151 i, s1.1 152 i, s1.1 153 i, s1.1 154 i, s1.1 182 i) = f := by simpa using hf
        subst ef
        exact ⟨rfl, rfl, rfl, rfl, rfl⟩
      · rw [List.getElem?_eq_none (by rw [List.length_range]; omega)] at hf
        cases hf
    · rw [qx 122 (by decide), z122]; rfl
    · rw [qx 121 (by decide), z121]; rfl
  have rc1 : RCs (mTT tx n) b s1 [] [] := ⟨by rw [qx 100 (by decide), z100]; rfl, by rw [qx 120 (by decide), z120]; rfl, fun c E hE => by cases hE⟩
  have r01 : offRd b s s1 := o6.tr (offRd_S (offS_of r1.E))
  have pre : mjF (D + 16) 261 [.ref 97] (mjW0 s) = lC D mjN s1 := by
    rw [e_261]
    unfold f_261 b_261_0
    rw [xg_97_11, xg_97_63, h63, xs_100, if_pos (mj_in_nI (by omega) (by decide)), nI_clamp (by omega), ← g1, xg_97_31, xg_97_63, v1 97 (by decide), h63, xs_120, if_pos (mj_in_nI (by omega) (by decide)), nI_clamp (by omega), ← g2, xg_97_32, xg_97_63, v2 97 (by decide), v1 97 (by decide), h63, xs_121, if_pos (mj_in_nI (by omega) (by decide)), nI_clamp (by omega), ← g3, xg_97_33, xg_97_63, v3 97 (by decide), v2 97 (by decide), v1 97 (by decide), h63, xs_122, if_pos (mj_in_nI (by omega) (by decide)), nI_clamp (by omega), ← g4, xp_97_64, ← g5, xp_97_5, ← g6, xV_97, e1, bN_s]
    rfl
  have I := cls_ok (D := D) (b := b) h0 hN 17 (0, [], [], [], []) s1 W rfl (by show 0 ≤ 16; omega) (by show 0 ≤ N; omega) (by show 6 * 0 ≤ 7 * 0; omega) (by show 4 * 0 ≤ 0; omega) (fun c E hE => by cases hE) a1 rc1
  unfold pText
  cases hc : pClasses (mTT tx n) (N + 1) (800 * b) 17 (0, [], [], [], []) with
  | inl e =>
    rw [hc] at I
    obtain ⟨s2, j, x, i1, i2, i3, i4⟩ := I
    obtain ⟨q, hq⟩ : ∃ q, mjN = q + j := ⟨mjN - j, by omega⟩
    exact ⟨s2, x, by rw [pre, hq]; exact i1 q, i3, r01.tr i4⟩
  | inr z =>
    rw [hc] at I
    obtain ⟨i1, i2, i3, i4, i5, i6, s2, j, W2, j1, j2, a2, rc2, r2⟩ := I
    obtain ⟨q, hq⟩ : ∃ q, mjN = (q + 1) + j := ⟨mjN - j - 1, by omega⟩
    have pre2 : mjF (D + 16) 261 [.ref 97] (mjW0 s) = lC D (q + 1) s2 := by rw [pre, hq]; exact j1 _
    obtain ⟨K9, Kn⟩ := m_main (D := D) h0 hN i2 i4 i5 a2 i1 q
    by_cases e9 : (mTT tx n z.1).1 = 9
    · simp only [if_pos e9]
      have G := K9 e9
      cases hp : prS (mTT tx n) (N + 1) 30 0 0 (z.1 + 1) 0 (800 * b + z.2.2.1.length) z.2.2.2.1.length with
      | inl e =>
        rw [hp] at G
        obtain ⟨s3, x, c1, c2, c3⟩ := G
        exact ⟨s3, x, by rw [pre2, c1], c2, r01.tr (r2.tr c3)⟩
      | inr y =>
        rw [hp] at G
        by_cases e0 : (mTT tx n y.1).1 = 0
        · simp only [if_pos e0]
          obtain ⟨⟨b1, b2, b3, b4, b5⟩, s3, W3, c1, c2, c3, c4, c5, c6, c7⟩ := G.1 e0
          refine ⟨s3, W3, y.1, by rw [pre2, c1], ?_, ⟨?_, ?_, fun c E hE => ?_⟩, c3, i3, i6, ?_, ?_, b5, r01.tr (r2.tr c7)⟩
          · rw [List.append_assoc]; exact c2
          · rw [c5 100 b (by omega)]; exact rc2.1
          · rw [c5 120 b (by omega)]; exact rc2.2.1
          · exact (rc2.2.2 c E hE).q c5 c6
          · simp only [List.length_append, List.length_cons, List.length_nil]; omega
          · simp only [List.length_append]; omega
        · simp only [if_neg e0]
          obtain ⟨s3, x, c1, c2, c3⟩ := G.2 e0
          exact ⟨s3, x, by rw [pre2, c1], c2, r01.tr (r2.tr c3)⟩
    · simp only [if_neg e9]
      obtain ⟨s3, x, c1, c2, c3⟩ := Kn e9
      exact ⟨s3, x, by rw [pre2, c1], c2, r01.tr (r2.tr c3)⟩
end MJA0
end
