/-! ===== the reference: NAMES, INS ===== -/
def RN (T : TT) (s : mjSt3) (C c0 k : Nat) : Prop := s.1 104 C = nI k ∧ ∀ j, j < k → s.2.1 111 (5 * C + j) = (T (c0 + 2 * j)).2.2.1 ∧ s.1 112 (5 * C + j) = (T (c0 + 2 * j)).2.1
def chNa (b C h j : Nat) : Prop := chE b h j ∨ (h = 104 ∧ j = C) ∨ (h = 112 ∧ 5 * C ≤ j ∧ j < 5 * C + 5)
def chNaL (b C h j : Nat) : Prop := chEL b h j ∨ (h = 111 ∧ 5 * C ≤ j ∧ j < 5 * C + 5)
def offNa (b C : Nat) : mjSt3 → mjSt3 → Prop := offG (chNa b C) (chNaL b C)
noncomputable def lNa (D m C : Nat) (w : Int32) (s : mjSt3) : mjU := L_267_170 (mjF (D + 14)) m 97 (nI C) w (mjW0 s)
theorem L267_S (R : mjR) (m a : Nat) (x y : Int32) (hp : mjH) : L_267_170 R (m + 1) a x y hp = b_267_170 R (L_267_170 R m) a x y hp := rfl
theorem L267m_S (R : mjR) (m a : Nat) (x : Int32) (hp : mjH) : L_267_371 R (m + 1) a x hp = b_267_371 R (L_267_371 R m) a x hp := rfl
section MJ96
variable {tx : Nat → Int32} {n b D k o N C : Nat} {s s' : mjSt3} {W : List WF} {os : List Row} {ks : List Nat}
theorem offNa_of (h : offE b s s') : offNa b C s s' := offG.mono h (fun _ _ q => Or.inl q) (fun _ _ q => Or.inl q)
theorem RN.off {T : TT} {c0 : Nat} (h : RN T s C c0 k) (r : offE b s s') : RN T s' C c0 k := by
  refine ⟨?_, fun j hj => ?_⟩
  · rw [r.1 104 C (by unfold chE; omega), h.1]
  · rw [r.2.1 111 _ (by unfold chEL; omega), r.1 112 _ (by unfold chE; omega)]; exact h.2 j hj
theorem idxN {c m : Nat} : (5 : Int32) * nI C + nI m = nI (5 * C + m) := by
  rw [show (5 : Int32) = nI 5 from rfl, pk_mul, nI_add]
theorem idxI {m : Nat} : (8 : Int32) * nI C + nI m = nI (8 * C + m) := by
  rw [show (8 : Int32) = nI 8 from rfl, pk_mul, nI_add]
/-- a class's reader, bad -/
theorem cl_bad {T : TT} {e : Nat × Nat} {x : Nat} (z : MZ T b s e x) : L_267_371 (mjF (D + 14)) mjN 97 (nI C) (mjW0 s) = some (none, mjW0 s) := by
  have hmj := mjN_v
  rw [show mjN = (mjN - 1) + 1 by omega, L267m_S]
  unfold b_267_371
  rw [xg_97_61, if_neg z.n0]
  unfold b_267_395
  rw [xg_97_61, if_neg z.n0]
theorem cl_bad3 {T : TT} {e : Nat × Nat} {x : Nat} (z : MZ T b s e x) : b_267_358 (mjF (D + 14)) 97 (nI C) (mjW0 s) = some (none, mjW0 s) := by
  unfold b_267_358
  rw [xg_97_61, if_neg z.n0, cl_bad z]
theorem cl_bad2 {T : TT} {e : Nat × Nat} {x : Nat} (z : MZ T b s e x) : b_267_338 (mjF (D + 14)) 97 (nI C) (mjW0 s) = some (none, mjW0 s) := by
  unfold b_267_338
  rw [xg_97_61, if_neg z.n0, cl_bad3 z]
theorem cl_bad1 {T : TT} {e : Nat × Nat} {x : Nat} (z : MZ T b s e x) : b_267_299 (mjF (D + 14)) 97 (nI C) (mjW0 s) = some (none, mjW0 s) := by
  unfold b_267_299
  rw [xg_97_61, if_neg z.n0, cl_bad2 z]
/-- a NAME is put -/
def naS (s : mjSt3) (C m : Nat) (nm : Int64) (x : Int32) : mjSt3 := uI (uI (uL s 111 (vp_updL (s.2.1 111) (5 * C + m) nm)) 112 (upd (s.1 112) (5 * C + m) x)) 104 (upd (s.1 104) C (nI (m + 1)))
theorem naS_RN {T : TT} {c0 m : Nat} (h : RN T s C c0 m) : RN T (naS s C m (T (c0 + 2 * m)).2.2.1 (T (c0 + 2 * m)).2.1) C c0 (m + 1) := by
  unfold naS
  refine ⟨?_, fun j hj => ?_⟩
  · simp [uI_g, upd_g]
  · by_cases e : j = m
    · subst e
      refine ⟨?_, ?_⟩
      · show vp_updL _ _ _ _ = _
        exact if_pos rfl
      · simp [uI_g, upd_g, uL_i]
    · obtain ⟨p1, p2⟩ := h.2 j (by omega)
      have e2 : ¬ 5 * C + j = 5 * C + m := by omega
      refine ⟨?_, ?_⟩
      · show vp_updL _ _ _ _ = _
        rw [updL_g, if_neg e2]; exact p1
      · simp only [uI_g, upd_g, uL_i]
        rw [if_neg (by decide), if_pos trivial, if_neg e2, p2]
theorem naS_off {m : Nat} {nm : Int64} {x : Int32} (hm : m < 5) : offNa b C s (naS s C m nm x) ∧ offG chRow chRowL s (naS s C m nm x) := by
  unfold naS
  exact ⟨((offG.wl (by unfold chNaL; omega)).tr (offG.w (h := 112) (by unfold chNa; omega))).tr (offG.w (h := 104) (by unfold chNa; omega)), ((offG.wl (by unfold chRowL; omega)).tr (offG.w (h := 112) (by unfold chRow; omega))).tr (offG.w (h := 104) (by unfold chRow; omega))⟩
/-- NAMES from one on -/
theorem nam_ok (h0 : (mTT tx n N).1 = 0) (hN : N ≤ 3000) (hC : C < 32) {c0 : Nat} : ∀ (f m : Nat) (s : mjSt3), f + m = 6 → m ≤ 5 → c0 + 2 * m ≤ N → MR tx n b s (c0 + 2 * m) o W os ks → RN (mTT tx n) s C c0 m → match pNames (mTT tx n) f m (c0 + 2 * m) with
    | .inl e => ∃ s' j, (∀ q, lNa D (q + j) C 1 s = some (none, mjW0 s')) ∧ j ≤ f + 2 ∧ MZ (mTT tx n) b s' e os.length ∧ offNa b C s s'
    | .inr a => a.2 ≤ N ∧ a.2 = c0 + 2 * a.1 ∧ m < a.1 ∧ a.1 ≤ 5 ∧ ∃ s' j, (∀ q, lNa D (q + j) C 1 s = b_267_299 (mjF (D + 14)) 97 (nI C) (mjW0 s')) ∧ j ≤ f + 2 ∧ MR tx n b s' a.2 o W os ks ∧ RN (mTT tx n) s' C c0 a.1 ∧ offNa b C s s'
  | 0, m, s, hf, hm, _, _, _ => by omega
  | f + 1, m, s, hf, hm, hc, a, p => by
    have A := a.at
    have S3 := (v_srt A).2.1
    obtain ⟨c, hce⟩ : ∃ c, c = c0 + 2 * m := ⟨_, rfl⟩
    have pre : ∀ q, lNa D (q + 1) C 1 s = if (mTT tx n (c0 + 2 * m)).1 = 3 then (if m = 5 then bN (mjF (D + 14) 268 [.ref 97, .int 3, .int (mTT tx n (c0 + 2 * m)).2.1] (mjW0 s)) (fun hp7 => b_267_208 (mjF (D + 14)) (L_267_170 (mjF (D + 14)) q) 97 (nI C) hp7) else b_267_208 (mjF (D + 14)) (L_267_170 (mjF (D + 14)) q) 97 (nI C) (mjW0 s)) else bN (mjF (D + 14) 269 [.ref 97] (mjW0 s)) (fun hp8 => b_267_208 (mjF (D + 14)) (L_267_170 (mjF (D + 14)) q) 97 (nI C) hp8) := by
      intro q
      unfold lNa
      rw [L267_S]
      unfold b_267_170
      rw [if_neg (show ¬ (1 : Int32) = 0 by decide), xg_97_3]
      by_cases e3 : (mTT tx n (c0 + 2 * m)).1 = 3
      · rw [if_pos e3, if_pos (S3.mpr e3), xg_97_15, xa_104, if_pos (mj_in_nI hC (by decide)), nI_clamp (by omega), p.1, xg_97_4, A.2.2.1, xV_97]
        by_cases e : m = 5
        · rw [if_pos e, if_pos (show nI m = 5 by rw [e]; rfl)]
        · rw [if_neg e, if_neg (show ¬ nI m = 5 from fun q => e ((nI_eq (a := m) (b := 5) (by omega) (by omega)).mp q))]
      · rw [if_neg e3, if_neg (fun q => e3 (S3.mp q)), xV_97]
    have bad : ∀ (T : TT) (e : Nat × Nat) (x q : Nat) (t : mjSt3), MZ T b t e x → b_267_208 (mjF (D + 14)) (L_267_170 (mjF (D + 14)) q) 97 (nI C) (mjW0 t) = some (none, mjW0 t) := by
      intro T e x q t z
      unfold b_267_208
      rw [xg_97_61, if_neg z.pos]
    unfold pNames
    by_cases e3 : (mTT tx n (c0 + 2 * m)).1 = 3
    · simp only [if_pos e3]
      by_cases e5 : m = 5
      · simp only [if_pos e5]
        have z1 := a.z (e := (3, c0 + 2 * m)) (Or.inr (Or.inr rfl))
        refine ⟨_, 1, fun q => ?_, by omega, z1, offNa_of (bS_off _ _)⟩
        rw [pre, if_pos e3, if_pos e5, v_fail a.2.1.2.1, bN_s]
        exact bad _ _ _ q _ z1
      · simp only [if_neg e5]
        have hl1 := lt_N hN h0 hc e3 (by decide)
        have ko := naS_off (b := b) (C := C) (s := s) (nm := (mTT tx n (c0 + 2 * m)).2.2.1) (x := (mTT tx n (c0 + 2 * m)).2.1) (show m < 5 by omega)
        have p1 := naS_RN p
        obtain ⟨t1, h1⟩ : ∃ t, t = naS s C m (mTT tx n (c0 + 2 * m)).2.2.1 (mTT tx n (c0 + 2 * m)).2.1 := ⟨_, rfl⟩
        rw [← h1] at ko p1
        have a1 := a.keep ko.2
        obtain ⟨s2, e2, a2, r2, f2⟩ := m_next (d := D + 11) a1 (by rw [e3]; decide)
        have p2 := p1.off r2
        have r02 : offNa b C s s2 := ko.1.tr (offNa_of r2)
        have body : ∀ q, lNa D (q + 1) C 1 s = if (mTT tx n (c0 + 2 * m + 1)).1 = 44 then bN (mjF (D + 14) 262 [.ref 97] (mjW0 s2)) (fun hp18 => L_267_170 (mjF (D + 14)) q 97 (nI C) 1 hp18) else lNa D q C 0 s2 := by
          intro q
          rw [pre, if_pos e3, if_neg e5]
          unfold b_267_208
          rw [xg_97_61, a.2.1.2.1, if_pos (show (0 : Int32) ≤ 0 by decide), xg_97_22, xg_97_15, xa_104, if_pos (mj_in_nI hC (by decide)), nI_clamp (by omega), p.1, xg_97_7, A.2.2.2.2 (Or.inr e3), idxN (c := 0), xs_111, if_pos (mj_in_nI (by omega) (by decide)), nI_clamp (by omega), xg_97_23, xg_97_15, xa_104, if_pos (mj_in_nI hC (by decide)), nI_clamp (by omega), uL_i, p.1, xg_97_4, uL_i, A.2.2.1, idxN (c := 0), xs_112, if_pos (mj_in_nI (by omega) (by decide)), nI_clamp (by omega), uL_i, xg_97_15, xa_104, if_pos (mj_in_nI hC (by decide)), nI_clamp (by omega), uI_ne _ _ _ _ (by decide), uL_i, p.1, nI_1, xs_104, if_pos (mj_in_nI hC (by decide)), nI_clamp (by omega), uI_ne _ _ _ _ (by decide), uL_i, xV_97]
          rw [show uI (uI (uL s 111 (vp_updL (s.2.1 111) (5 * C + m) (mTT tx n (c0 + 2 * m)).2.2.1)) 112 (upd (s.1 112) (5 * C + m) (mTT tx n (c0 + 2 * m)).2.1)) 104 (upd (s.1 104) C (nI (m + 1))) = t1 from h1.symm, e2, bN_s, xV_97, v_sign a2.at (c := 44) (by decide), bI_s, i01]
          by_cases e : (mTT tx n (c0 + 2 * m + 1)).1 = 44
          · rw [if_pos e, if_pos e, if_pos e, xV_97]
          · rw [if_neg e, if_neg e, if_neg e]; rfl
        by_cases e44 : (mTT tx n (c0 + 2 * m + 1)).1 = 44
        · simp only [if_pos e44]
          have hl2 := lt_N hN h0 (show c0 + 2 * m + 1 ≤ N from hl1) e44 (by decide)
          obtain ⟨s3, e3', a3, r3, f3⟩ := m_next (d := D + 11) a2 (by rw [e44]; decide)
          have I := nam_ok h0 hN hC f (m + 1) s3 (by omega) (by omega) (show c0 + 2 * (m + 1) ≤ N by omega) a3 (p2.off r3)
          have step : ∀ q, lNa D (q + 1) C 1 s = lNa D q C 1 s3 := fun q => by rw [body, if_pos e44, e3', bN_s]; rfl
          have r03 : offNa b C s s3 := r02.tr (offNa_of r3)
          rw [show c0 + 2 * (m + 1) = c0 + 2 * m + 2 by omega] at I
          cases hp : pNames (mTT tx n) f (m + 1) (c0 + 2 * m + 2) with
          | inl e =>
            rw [hp] at I
            obtain ⟨s6, j, g1, g2, g3, g4⟩ := I
            exact ⟨s6, j + 1, fun q => by rw [← Nat.add_assoc, step]; exact g1 q, by omega, g3, r03.tr g4⟩
          | inr y =>
            rw [hp] at I
            obtain ⟨i1, i2, i3, i4, s6, j, g1, g2, g3, g4, g5⟩ := I
            exact ⟨i1, i2, by omega, i4, s6, j + 1, fun q => by rw [← Nat.add_assoc, step]; exact g1 q, by omega, g3, g4, r03.tr g5⟩
        · simp only [if_neg e44]
          have pre0 : ∀ q, lNa D (q + 1) C 0 s2 = bN (mjF (D + 14) 270 [.ref 97, .int 93] (mjW0 s2)) (fun hp2 => b_267_299 (mjF (D + 14)) 97 (nI C) hp2) := by
            intro q
            unfold lNa
            rw [L267_S]
            unfold b_267_170
            rw [if_pos rfl, xg_97_61, a2.2.1.2.1, if_pos rfl, xV_97]
          by_cases e93 : (mTT tx n (c0 + 2 * m + 1)).1 = 93
          · simp only [if_pos e93]
            have hl2 := lt_N hN h0 (show c0 + 2 * m + 1 ≤ N from hl1) e93 (by decide)
            obtain ⟨s3, e3', a3, r3, f3⟩ := m_take (d := D + 10) a2 (c := 93) (by decide) e93
            refine ⟨hl2, by show c0 + 2 * m + 2 = c0 + 2 * (m + 1); omega, by show m < m + 1; omega, by show m + 1 ≤ 5; omega, s3, 2, fun q => ?_, by omega, a3, p2.off r3, r02.tr (offNa_of r3)⟩
            rw [show q + 2 = (q + 1) + 1 by omega, body, if_neg e44, pre0, e3', bN_s]
          · simp only [if_neg e93]
            have e3' := m_takeB (d := D + 10) a2 (c := 93) (by decide) e93
            refine ⟨_, 2, fun q => ?_, by omega, m_wz a2, r02.tr (offNa_of (bS_off _ _))⟩
            rw [show q + 2 = (q + 1) + 1 by omega, body, if_neg e44, pre0, e3', bN_s, cl_bad1 (m_wz a2)]
    · simp only [if_neg e3]
      refine ⟨_, 1, fun q => ?_, by omega, m_wz a, offNa_of (bS_off _ _)⟩
      rw [pre, if_neg e3, m_wrong a, bN_s]
      exact bad _ _ _ q _ (m_wz a)
end MJ96
