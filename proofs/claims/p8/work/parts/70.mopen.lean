/-! ===== the reference: opens, closes, take; a KIND ===== -/
/-- bad: the FAULT e; m orders -/
def MZ (T : TT) (b : Nat) (s : mjSt3) (e : Nat × Nat) (m : Nat) : Prop := b ≤ 1 ∧ (e.1 = 1 ∨ e.1 = 2 ∨ e.1 = 3) ∧ s.1 97 61 = nI e.1 ∧ s.1 97 62 = (T e.2).2.1 ∧ s.1 97 63 = nI b ∧ s.1 122 b = nI m
section MJ70
variable {tx : Nat → Int32} {n b d k o : Nat} {s s' : mjSt3} {W : List WF} {os : List Row} {ks : List Nat}
theorem x_order (hb : b ≤ 1) (hB : s.1 97 63 = nI b) {m : Nat} (hO : s.1 122 b = nI m) (hl : m < 5000) (w p a c : Int32) : mjF (d + 1) 281 [.ref 97, .int w, .int p, .int a, .int c] (mjW0 s) = some (none, mjW0 (orS s (5000 * b + m) b m w p a c 0)) := by
  rw [e_281]
  unfold f_281 b_281_0
  rw [xg_97_63, hB, xg_97_33, xg_97_63, hB, xa_122, if_pos (mj_in_nI (by omega) (by decide)), nI_clamp (by omega), hO, idx5 hb, xg_97_54, xs_143, if_pos (mj_in_nI (by omega) (by decide)), nI_clamp (by omega), xg_97_55, xs_144, if_pos (mj_in_nI (by omega) (by decide)), nI_clamp (by omega), uI_ne _ _ _ _ (by decide), xg_97_56, xs_145, if_pos (mj_in_nI (by omega) (by decide)), nI_clamp (by omega), uI_ne _ _ _ _ (by decide), uI_ne _ _ _ _ (by decide), xg_97_57, xs_146, if_pos (mj_in_nI (by omega) (by decide)), nI_clamp (by omega), uI_ne _ _ _ _ (by decide), uI_ne _ _ _ _ (by decide), uI_ne _ _ _ _ (by decide), xg_97_58, xs_147, if_pos (mj_in_nI (by omega) (by decide)), nI_clamp (by omega), xg_97_33, xg_97_63, uL_i, uI_ne _ _ _ _ (by decide), uI_ne _ _ _ _ (by decide), uI_ne _ _ _ _ (by decide), uI_ne _ _ _ _ (by decide), hB, xa_122, if_pos (mj_in_nI (by omega) (by decide)), nI_clamp (by omega), uL_i, uI_ne _ _ _ _ (by decide), uI_ne _ _ _ _ (by decide), uI_ne _ _ _ _ (by decide), uI_ne _ _ _ _ (by decide), hO, nI_1, xs_122, if_pos (mj_in_nI (by omega) (by decide)), nI_clamp (by omega), uL_i, uI_ne _ _ _ _ (by decide), uI_ne _ _ _ _ (by decide), uI_ne _ _ _ _ (by decide), uI_ne _ _ _ _ (by decide)]
  rfl
/-- an order in a bad state -/
theorem z_order {T : TT} {e : Nat × Nat} {m : Nat} (h : MZ T b s e m) (hl : m < 5000) (w p a c : Int32) : ∃ s', mjF (d + 1) 281 [.ref 97, .int w, .int p, .int a, .int c] (mjW0 s) = some (none, mjW0 s') ∧ MZ T b s' e (m + 1) ∧ offE b s s' ∧ s'.1 97 = s.1 97 := by
  obtain ⟨h1, h2, h3, h4, h5, h6⟩ := h
  have f := orS_at (s := s) (i := 5000 * b + m) (b := b) (m := m) (w := w) (p := p) (a := a) (c := c) (nm := 0)
  have e97 := f.2.2.2.2.2.2.1 97 (by omega) (by omega)
  refine ⟨_, x_order h1 h5 h6 hl w p a c, ⟨h1, h2, ?_, ?_, ?_, ?_⟩, orS_off hl, e97⟩
  · rw [e97, h3]
  · rw [e97, h4]
  · rw [e97, h5]
  · rw [f.2.2.2.2.2.1, up_same]
theorem MR.z (h : MR tx n b s k o W os ks) {e : Nat × Nat} (he : e.1 = 1 ∨ e.1 = 2 ∨ e.1 = 3) : MZ (mTT tx n) b (bS s (nI e.1) ((mTT tx n) e.2).2.1) e os.length := by
  have f := bS_at (s := s) (nI e.1) ((mTT tx n) e.2).2.1
  refine ⟨h.2.1.1, he, f.1, f.2.1, ?_, ?_⟩
  · rw [f.2.2.1 63 (by decide) (by decide)]; exact h.2.1.2.2.1
  · rw [f.2.2.2.1 122 (by decide)]; exact h.2.2.2.1.1
theorem MZ.w {T : TT} {e : Nat × Nat} {m j : Nat} {v : Int32} (h : MZ T b s e m) (hj : j = 64 ∨ j = 76 ∨ j = 77 ∨ j = 67 ∨ j = 71) : MZ T b (uI s 97 (upd (s.1 97) j v)) e m := by
  obtain ⟨h1, h2, h3, h4, h5, h6⟩ := h
  refine ⟨h1, h2, ?_, ?_, ?_, ?_⟩
  · rw [uI_same, upd_g, if_neg (by omega), h3]
  · rw [uI_same, upd_g, if_neg (by omega), h4]
  · rw [uI_same, upd_g, if_neg (by omega), h5]
  · rw [uI_ne _ _ _ _ (by decide), h6]
theorem MZ.n0 {T : TT} {e : Nat × Nat} {m : Nat} (h : MZ T b s e m) : ¬ s.1 97 61 = 0 := by
  rw [h.2.2.1]; exact in_n0 h.2.1
theorem MZ.pos {T : TT} {e : Nat × Nat} {m : Nat} (h : MZ T b s e m) : ¬ s.1 97 61 ≤ 0 := by
  rw [h.2.2.1]
  have := h.2.1
  exact nI_nle (by omega) (by omega)
/-- wrong() -/
theorem m_wrong (h : MR tx n b s k o W os ks) : mjF (d + 2) 269 [.ref 97] (mjW0 s) = some (none, mjW0 (bS s (nI (F2 (mTT tx n) k).1) ((mTT tx n) (F2 (mTT tx n) k).2).2.1)) := v_wrong h.at h.2.1.2.1
theorem m_wz (h : MR tx n b s k o W os ks) : MZ (mTT tx n) b (bS s (nI (F2 (mTT tx n) k).1) ((mTT tx n) (F2 (mTT tx n) k).2).2.1) (F2 (mTT tx n) k) os.length := h.z (F2_in _ _)
/-- take(c) -/
theorem m_take (h : MR tx n b s k o W os ks) {c : Int32} (hc : c ∈ sgM) (e : (mTT tx n k).1 = c) : ∃ s', mjF (d + 4) 270 [.ref 97, .int c] (mjW0 s) = some (none, mjW0 s') ∧ MR tx n b s' (k + 1) o W os ks ∧ offE b s s' ∧ s'.1 97 77 = s.1 97 77 := by
  have h1 : ¬ (mTT tx n k).1 = 1 := by rw [e]; exact (sg_ok hc).2.2.1
  obtain ⟨s', a1, a2, a3, a4⟩ := m_next (d := d) h h1
  refine ⟨s', ?_, a2, a3, a4⟩
  rw [e_270]
  unfold f_270 b_270_0
  rw [xV_97, v_sign h.at hc, bI_s, i01, if_pos e, xV_97, a1, bN_s]
theorem m_takeB (h : MR tx n b s k o W os ks) {c : Int32} (hc : c ∈ sgM) (e : ¬ (mTT tx n k).1 = c) : mjF (d + 4) 270 [.ref 97, .int c] (mjW0 s) = some (none, mjW0 (bS s (nI (F2 (mTT tx n) k).1) ((mTT tx n) (F2 (mTT tx n) k).2).2.1)) := by
  rw [e_270]
  unfold f_270 b_270_0
  rw [xV_97, v_sign h.at hc, bI_s, i01, if_neg e, xV_97, m_wrong h, bN_s]
/-- opens(c) -/
theorem m_opens (h : MR tx n b s k o W os ks) {c : Int32} (hc : c ∈ sgM) (e : (mTT tx n k).1 = c) (ho : o < 12) : ∃ s', mjF (d + 4) 274 [.ref 97, .int c] (mjW0 s) = some (none, mjW0 s') ∧ MR tx n b s' (k + 1) (o + 1) W os ks ∧ offE b s s' ∧ s'.1 97 77 = s.1 97 77 := by
  have h1 : ¬ (mTT tx n k).1 = 1 := by rw [e]; exact (sg_ok hc).2.2.1
  have hO : s.1 97 64 = nI o := h.2.1.2.2.2
  have h2 := h.w64 (o + 1)
  obtain ⟨s', a1, a2, a3, a4⟩ := m_next (d := d) h2 h1
  refine ⟨s', ?_, a2, (w97_off (by omega)).tr a3, ?_⟩
  · rw [e_274]
    unfold f_274 b_274_0 b_274_41
    rw [xV_97, v_sign h.at hc, bI_s, i01, if_pos e, xg_97_64, hO, nI_1, xp_97_64, xg_97_64, uI_same, up_same, if_pos (show nI (o + 1) ≤ 12 from nI_le (b := 12) (by omega) (by omega)), xV_97, a1, bN_s]
  · rw [a4, uI_same]; exact if_neg (by decide)
theorem m_opens2 (h : MR tx n b s k o W os ks) {c : Int32} (hc : c ∈ sgM) (e : ¬ (mTT tx n k).1 = c) : mjF (d + 4) 274 [.ref 97, .int c] (mjW0 s) = some (none, mjW0 (bS s (nI (F2 (mTT tx n) k).1) ((mTT tx n) (F2 (mTT tx n) k).2).2.1)) := by
  rw [e_274]
  unfold f_274 b_274_0
  rw [xV_97, v_sign h.at hc, bI_s, i01, if_neg e, xV_97, m_wrong h, bN_s]
theorem m_opens3 (h : MR tx n b s k 12 W os ks) {c : Int32} (hc : c ∈ sgM) (e : (mTT tx n k).1 = c) : ∃ s', mjF (d + 4) 274 [.ref 97, .int c] (mjW0 s) = some (none, mjW0 s') ∧ MZ (mTT tx n) b s' (3, k) os.length ∧ offE b s s' := by
  have h1 : ¬ (mTT tx n k).1 = 1 := by rw [e]; exact (sg_ok hc).2.2.1
  have hO : s.1 97 64 = nI 12 := h.2.1.2.2.2
  have h2 := h.w64 13
  have f := bS_at (s := uI s 97 (upd (s.1 97) 64 (nI 13))) 3 (mTT tx n k).2.1
  have hm : MB tx n (bS (uI s 97 (upd (s.1 97) 64 (nI 13))) 3 (mTT tx n k).2.1) := by
    have := h2.1.1
    unfold MB at this ⊢
    rw [f.2.2.1 2 (by decide) (by decide), f.2.2.2.1 98 (by decide), f.2.2.2.2]; exact this
  have ht : MT tx n k (bS (uI s 97 (upd (s.1 97) 64 (nI 13))) 3 (mTT tx n k).2.1) := by
    have := h2.1.2
    unfold MT at this ⊢
    rw [f.2.2.1 3 (by decide) (by decide), f.2.2.1 4 (by decide) (by decide), f.2.2.1 5 (by decide) (by decide), f.2.2.1 6 (by decide) (by decide), f.2.2.2.2]; exact this
  obtain ⟨s', a1, _, r⟩ := x_mt (d := d) hm ht h1
  have z := h2.z (e := (3, k)) (Or.inr (Or.inr rfl))
  refine ⟨s', ?_, ⟨z.1, z.2.1, ?_, ?_, ?_, ?_⟩, ((w97_off (j := 64) (by omega)).tr (bS_off 3 (mTT tx n k).2.1)).tr r.E⟩
  · rw [e_274]
    unfold f_274 b_274_0 b_274_41
    rw [xV_97, v_sign h.at hc, bI_s, i01, if_pos e, xg_97_64, hO, nI_1, xp_97_64, xg_97_64, uI_same, up_same, if_neg (show ¬ nI (12 + 1) ≤ 12 from nI_ge (a := 12) (by omega) (by omega)), xg_97_4, h2.at.2.2.1, xV_97, v_fail h2.2.1.2.1, bN_s, xV_97, a1, bN_s]
  · rw [r.2.1 61 (by decide) (by decide) (by decide) (by decide)]; exact z.2.2.1
  · rw [r.2.1 62 (by decide) (by decide) (by decide) (by decide)]; exact z.2.2.2.1
  · rw [r.2.1 63 (by decide) (by decide) (by decide) (by decide)]; exact z.2.2.2.2.1
  · rw [r.1 122 (by decide)]; exact z.2.2.2.2.2
/-- closes(c) -/
theorem m_closes (h : MR tx n b s k (o + 1) W os ks) {c : Int32} (hc : c ∈ sgM) (e : (mTT tx n k).1 = c) : ∃ s', mjF (d + 4) 278 [.ref 97, .int c] (mjW0 s) = some (none, mjW0 s') ∧ MR tx n b s' (k + 1) o W os ks ∧ offE b s s' ∧ s'.1 97 77 = s.1 97 77 := by
  have h1 : ¬ (mTT tx n k).1 = 1 := by rw [e]; exact (sg_ok hc).2.2.1
  have hO : s.1 97 64 = nI (o + 1) := h.2.1.2.2.2
  have h2 := h.w64 o
  obtain ⟨s', a1, a2, a3, a4⟩ := m_next (d := d) h2 h1
  refine ⟨s', ?_, a2, (w97_off (by omega)).tr a3, ?_⟩
  · rw [e_278]
    unfold f_278 b_278_0
    rw [xV_97, v_sign h.at hc, bI_s, i01, if_pos e, xg_97_64, hO, nI_pred, xp_97_64, xV_97, a1, bN_s]
  · rw [a4, uI_same]; exact if_neg (by decide)
theorem m_closesB (h : MR tx n b s k o W os ks) {c : Int32} (hc : c ∈ sgM) (e : ¬ (mTT tx n k).1 = c) : mjF (d + 4) 278 [.ref 97, .int c] (mjW0 s) = some (none, mjW0 (bS s (nI (F2 (mTT tx n) k).1) ((mTT tx n) (F2 (mTT tx n) k).2).2.1)) := by
  rw [e_278]
  unfold f_278 b_278_0
  rw [xV_97, v_sign h.at hc, bI_s, i01, if_neg e, xV_97, m_wrong h, bN_s]
end MJ70
