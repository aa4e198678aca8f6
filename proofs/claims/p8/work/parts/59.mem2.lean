/-! ===== a MEMBER, whole ===== -/
section MJ59
variable {T : TT} {d N c q ci m : Nat} {s : mjSt3} {f p o v : Int32} {ag : Nat → Int32}
/-- the base behind a FIELD -/
def faS (s : mjSt3) (q ci m : Nat) : mjSt3 := uI (uI s (q + 19) (upd (s.1 (q + 19)) m (s.1 (q + 7) ci))) (q + 7) (upd (s.1 (q + 7)) ci (s.1 (q + 7) ci + 1))
theorem faS_off : offM q ci m s (faS s q ci m) := by
  unfold faS
  have a : offM q ci m s (uI s (q + 19) (upd (s.1 (q + 19)) m (s.1 (q + 7) ci))) := offG.w (chM_m (by omega))
  have b : offM q ci m _ (uI (uI s (q + 19) (upd (s.1 (q + 19)) m (s.1 (q + 7) ci))) (q + 7) (upd ((uI s (q + 19) (upd (s.1 (q + 19)) m (s.1 (q + 7) ci))).1 (q + 7)) ci (s.1 (q + 7) ci + 1))) := offG.w (chM_c (by omega))
  rw [uI_ne _ _ _ _ (show ¬ q + 7 = q + 19 by omega)] at b
  exact a.tr b
theorem k136_f (hT : TH T N s) (hQ : RQ q s) (hi : ci < 16) (hm : m < 385) (hc : c ≤ N) (h59 : (T c).1 = 59) : k136 (mjF (d + 4)) 64 (nI ci) (nI m) (mjW0 (eR s (c, 0, p, o, v, ag))) = some (none, mjW0 (eR (faS s q ci m) (c + 1, 0, p, o, v, ag))) := by
  have hq : q = 2 ∨ q = 30 := hQ.1
  have q1 : s.2.2 64 1 = q := hQ.2.1
  have q2 : s.2.2 64 2 = q + 14 := hQ.2.2
  have hl := lt_of hT hc h59 (by decide)
  unfold k136
  rw [xg_64_0, xV_58, u_is hT hc, bI_s, i01, if_pos h59, xg_64_0, xV_58, u_skip hT hl, bN_s, xg_64_2, eR_2, q2, ymg_5 hQ.1, xg_64_1, eR_2, q1, yg_7 hQ.1, ya_7 hQ.1, if_pos (mj_in_nI hi (by decide)), nI_clamp (by omega), eR_p hQ.1 (by omega), ys_19 hQ.1, if_pos (mj_in_nI hm (by decide)), nI_clamp (by omega), eR_p hQ.1 (by omega), wR_p hQ.1 (by omega), xg_64_1, eR_2, uI_l, q1, yg_7 hQ.1, ya_7 hQ.1, if_pos (mj_in_nI hi (by decide)), nI_clamp (by omega), eR_p hQ.1 (by omega), uI_ne _ _ _ _ (show ¬ q + 7 = q + 19 by omega), ys_7 hQ.1, if_pos (mj_in_nI hi (by decide)), nI_clamp (by omega), eR_p hQ.1 (by omega), uI_ne _ _ _ _ (show ¬ q + 7 = q + 19 by omega), wR_p hQ.1 (by omega)]
  rfl
/-- the base behind a METHOD: k PARAMS, BLOCK at c2, td VARIABLES -/
def mtS (s : mjSt3) (q ci m k c2 td : Nat) : mjSt3 := uI (uI (bsP (meS s q ci m) q m k) 70 (upd ((bsP (meS s q ci m) q m k).1 70) m (nI c2))) (q + 22) (upd ((uI (bsP (meS s q ci m) q m k) 70 (upd ((bsP (meS s q ci m) q m k).1 70) m (nI c2))).1 (q + 22)) m (nI td))
theorem mtS_off (k c2 td : Nat) : offM q ci m s (mtS s q ci m k c2 td) := by
  have o1 : offM q ci m s (meS s q ci m) := meS_off
  have o2 : offM q ci m (meS s q ci m) (bsP (meS s q ci m) q m k) := bsP_off k
  have o3 : offM q ci m (bsP (meS s q ci m) q m k) (uI (bsP (meS s q ci m) q m k) 70 (upd ((bsP (meS s q ci m) q m k).1 70) m (nI c2))) := offG.w (chM_m (by omega))
  exact ((o1.tr o2).tr o3).tr (offG.w (chM_m (h := q + 22) (by omega)))
/-- from the NAME on -/
theorem x_k136 (hT : TH T N s) (hQ : RQ q s) (hi : ci < 16) (hm : m < 385) (hc : c ≤ N) {D kq i0 : Nat} (hD : 190 ≤ D) (hz : s.1 (q + 20) m = 0) (h59 : ¬ (T c).1 = 59) : match pParams T kq c with
    | .inl e => mbOK q ci m s T N (k136 (mjF D) 64 (nI ci) (nI m) (mjW0 (eR s (c, 0, p, nI 1, v, ag)))) e
    | .inr y => match prS T (N + 1) 30 0 1 y.1 y.2.1.length (kq + y.2.2.length) i0 with
      | .inl e => mbOK q ci m s T N (k136 (mjF D) 64 (nI ci) (nI m) (mjW0 (eR s (c, 0, p, nI 1, v, ag)))) e
      | .inr z => z.1 ≤ N ∧ k136 (mjF D) 64 (nI ci) (nI m) (mjW0 (eR s (c, 0, p, nI 1, v, ag))) = some (none, mjW0 (eR (mtS s q ci m y.2.1.length y.1 z.2.1) (z.1, 0, p, nI 1, nI z.2.1, rAg z.2.2.2.2 ag))) := by
  obtain ⟨D, rfl⟩ : ∃ e, D = e + 190 := ⟨D - 190, by omega⟩
  have o1 : offM q ci m s (meS s q ci m) := meS_off
  have z1 : (meS s q ci m).1 (q + 20) m = 0 := by rw [meS_at.2.2.2.1 (q + 20) (by omega) (by omega) (by omega)]; exact hz
  rw [k136_me (d := D + 186) hT hQ hi hm hc h59]
  have h := x_params (d := D + 186) (ci := ci) (kq := kq) (p := p) (v := v) (ag := ag) (hT.offM hQ.1 o1) (hQ.offM o1) hm (o := 1) (by omega) hc z1
  cases hd : pParams T kq c with
  | inl e =>
    rw [hd] at h
    obtain ⟨he, s', o', v', ag', h, r⟩ := h
    have o3 : offM q ci m s' (uI s' 70 (upd (s'.1 70) m (nI N))) := offG.w (chM_m (by omega))
    have hT2 := (hT.offM hQ.1 o1).offM hQ.1 r
    have hQ2 := (hQ.offM o1).offM r
    have hT3 := hT2.offM hQ.1 o3
    have hQ3 := hQ2.offM o3
    rw [h, bN_s, k136_b (d := D + 186) hT2 hQ2 hm (Nat.le_refl N) rfl, n_block hT3 (in_n0 he), bN_s, k136_e hQ3 hm]
    exact ⟨he, _, _, _, _, rfl, ((o1.tr r).tr o3).tr (offG.w (chM_m (h := q + 22) (by omega)))⟩
  | inr y =>
    rw [hd] at h
    obtain ⟨hy, hy6, h⟩ := h
    have o2 : offM q ci m (meS s q ci m) (bsP (meS s q ci m) q m y.2.1.length) := bsP_off _
    have e : (bsP (meS s q ci m) q m y.2.1.length).1 (q + 20) m = nI y.2.1.length := by unfold bsP; rw [uI_same]; exact if_pos rfl
    have o3 : offM q ci m (bsP (meS s q ci m) q m y.2.1.length) (uI (bsP (meS s q ci m) q m y.2.1.length) 70 (upd ((bsP (meS s q ci m) q m y.2.1.length).1 70) m (nI y.1))) := offG.w (chM_m (by omega))
    have hT2 := (hT.offM hQ.1 o1).offM hQ.1 o2
    have hQ2 := (hQ.offM o1).offM o2
    have hT3 := hT2.offM hQ.1 o3
    have hQ3 := hQ2.offM o3
    rw [h, bN_s, k136_b (d := D + 186) hT2 hQ2 hm hy e]
    show match prS T (N + 1) 30 0 1 y.1 y.2.1.length (kq + y.2.2.length) i0 with
      | .inl e => _
      | .inr z => _
    have k := (rdS_ok hT3 30 (D + 190) 1 y.1 y.2.1.length (kq + y.2.2.length) i0 p ag (by omega) (by omega) hy (by omega)).1 (by omega)
    cases hz : prS T (N + 1) 30 0 1 y.1 y.2.1.length (kq + y.2.2.length) i0 with
    | inl e =>
      rw [hz] at k
      obtain ⟨he, o', v', ag', k⟩ := k
      rw [k, bN_s, k136_e hQ3 hm]
      exact ⟨he, _, _, _, _, rfl, ((o1.tr o2).tr o3).tr (offG.w (chM_m (h := q + 22) (by omega)))⟩
    | inr z =>
      rw [hz] at k
      obtain ⟨hz', k⟩ := k
      rw [k, bN_s, k136_e hQ3 hm]
      exact ⟨hz', rfl⟩
/-- the base ahead of a MEMBER's TYPE -/
def mbS (s : mjSt3) (q ci m c k : Nat) : mjSt3 := uI (uI (uI (uI s (q + 14) (upd (s.1 (q + 14)) 0 (nI (m + 1)))) (q + 10) (upd (s.1 (q + 10)) ci (nI (k + 1)))) (q + 16) (upd (s.1 (q + 16)) m (nI ci))) 68 (upd (s.1 68) m (nI c))
theorem mbS_at (hQ : isP q) {k : Nat} : (mbS s q ci m c k).1 (q + 14) = upd (s.1 (q + 14)) 0 (nI (m + 1)) ∧ (mbS s q ci m c k).1 (q + 10) = upd (s.1 (q + 10)) ci (nI (k + 1)) ∧ (mbS s q ci m c k).1 (q + 16) = upd (s.1 (q + 16)) m (nI ci) ∧ (mbS s q ci m c k).1 68 = upd (s.1 68) m (nI c) ∧ (∀ h, ¬ h = q + 14 → ¬ h = q + 10 → ¬ h = q + 16 → ¬ h = 68 → (mbS s q ci m c k).1 h = s.1 h) ∧ (mbS s q ci m c k).2 = s.2 := by
  have hq : q = 2 ∨ q = 30 := hQ
  unfold mbS
  refine ⟨?_, ?_, ?_, ?_, fun h a b e g => ?_, rfl⟩
  · rw [uI_ne _ _ _ _ (by omega), uI_ne _ _ _ _ (by omega), uI_ne _ _ _ _ (by omega), uI_same]
  · rw [uI_ne _ _ _ _ (by omega), uI_ne _ _ _ _ (by omega), uI_same]
  · rw [uI_ne _ _ _ _ (by omega), uI_same]
  · rw [uI_same]
  · rw [uI_ne _ _ _ _ g, uI_ne _ _ _ _ e, uI_ne _ _ _ _ b, uI_ne _ _ _ _ a]
theorem mbS_off (hQ : isP q) {k : Nat} : offM q ci m s (mbS s q ci m c k) := by
  have f := mbS_at (s := s) (q := q) (ci := ci) (m := m) (c := c) (k := k) hQ
  refine offG_of (fun h j n => ?_) f.2.2.2.2.2
  by_cases e1 : h = q + 14
  · rw [e1, f.1]; exact if_neg (fun e => n (by rw [e, e1]; exact Or.inl ⟨rfl, rfl⟩))
  by_cases e2 : h = q + 10
  · rw [e2, f.2.1]; exact if_neg (fun e => n (by rw [e, e2]; exact chM_c (by omega)))
  by_cases e3 : h = q + 16
  · rw [e3, f.2.2.1]; exact if_neg (fun e => n (by rw [e, e3]; exact chM_m (by omega)))
  by_cases e4 : h = 68
  · rw [e4, f.2.2.2.1]; exact if_neg (fun e => n (by rw [e, e4]; exact chM_m (by omega)))
  rw [f.2.2.2.2.1 h e1 e2 e3 e4]
/-- the base ahead of a MEMBER's NAME -/
def mcS (s : mjSt3) (q m c1 : Nat) : mjSt3 := uL (uI s 69 (upd (s.1 69) m (nI c1))) (q + 15) (vp_updL (s.2.1 (q + 15)) m (s.2.1 62 c1))
theorem mcS_off (c1 : Nat) : offM q ci m s (mcS s q m c1) := by
  have a : offM q ci m s (uI s 69 (upd (s.1 69) m (nI c1))) := offG.w (chM_m (by omega))
  exact a.tr (offG.wl ⟨rfl, rfl⟩)
theorem u_key (hT : TH T N s) (hc : c ≤ N) {k : Nat} (hk : k ≤ N) : mjF (d + 1) 170 [.ref 58, .int (nI k)] (mjW0 (eR s (c, f, p, o, v, ag))) = some (some (.long (s.2.1 62 k)), mjW0 (eR s (c, f, p, o, v, ag))) := by
  rw [x_keyAt (eR_Tk hT.tb (show (c, f, p, o, v, ag).1 ≤ N from hc)) (by omega), eR_2]
theorem bL_s {v : Int64} {hp : mjH} {k : Int64 → mjH → mjU} : bL (some (some (.long v), hp)) k = k v hp := rfl
/-- readMember, up to its TYPE and from behind it -/
theorem x_136a (hT : TH T N s) (hQ : RQ q s) (hi : ci < 16) (hm : m < 384) {k D : Nat} (hk : k < 24) (hc : c ≤ N) (hD : 4 ≤ D) (h14 : s.1 (q + 14) 0 = nI m) (h10 : s.1 (q + 10) ci = nI k) {c1 : Nat} {f' p' : Int32} (hc1 : c1 ≤ N) (ht : mjF D 130 [.ref 64, .int 1] (mjW0 (eR (mbS s q ci m c k) (c, 0, p, o, v, ag))) = some (none, mjW0 (eR (mbS s q ci m c k) (c1, f', p', o, v, ag)))) :
    mjF (D + 1) 136 [.ref 64, .int (nI ci), .int (nI k)] (mjW0 (eR s (c, 0, p, o, v, ag))) = (bN (mjF D 169 [.ref 58, .int 3] (mjW0 (eR (mcS (mbS s q ci m c k) q m c1) (c1, f', p', o, v, ag)))) fun hp34 => k136 (mjF D) 64 (nI ci) (nI m) hp34) := by
  obtain ⟨D, rfl⟩ : ∃ e, D = e + 4 := ⟨D - 4, by omega⟩
  have hq : q = 2 ∨ q = 30 := hQ.1
  have q1 : s.2.2 64 1 = q := hQ.2.1
  have q2 : s.2.2 64 2 = q + 14 := hQ.2.2
  have n24 : ¬ nI k = 24 := fun e => by have := (nI_eq (a := k) (b := 24) (by omega) (by omega)).mp e; omega
  have ob : offM q ci m s (mbS s q ci m c k) := mbS_off hQ.1
  have hTb := hT.offM hQ.1 ob
  have hQb := hQ.offM ob
  rw [e_136]
  unfold f_136 b_136_0
  rw [xg_64_2, eR_2, q2, ymg_0 hQ.1, eR_p hQ.1 (by omega), h14, if_neg n24, if_pos (show nI m < 384 from nI_lt (b := 384) hm (by omega)), xg_64_2, eR_2, q2, ymg_0 hQ.1, eR_p hQ.1 (by omega), h14, nI_1, ymp_0 hQ.1, eR_p hQ.1 (by omega), wR_p hQ.1 (by omega), xg_64_1, eR_2, uI_l, q1, yg_10 hQ.1, ya_10 hQ.1, if_pos (mj_in_nI hi (by decide)), nI_clamp (by omega), eR_p hQ.1 (by omega), uI_ne _ _ _ _ (show ¬ q + 10 = q + 14 by omega), h10, nI_1, ys_10 hQ.1, if_pos (mj_in_nI hi (by decide)), nI_clamp (by omega), eR_p hQ.1 (by omega), uI_ne _ _ _ _ (show ¬ q + 10 = q + 14 by omega), wR_p hQ.1 (by omega), xg_64_2, eR_2, uI_l, uI_l, q2, ymg_2 hQ.1, ys_16 hQ.1, if_pos (mj_in_nI (by omega) (by decide)), nI_clamp (by omega), eR_p hQ.1 (by omega), uI_ne _ _ _ _ (show ¬ q + 16 = q + 10 by omega), uI_ne _ _ _ _ (show ¬ q + 16 = q + 14 by omega), wR_p hQ.1 (by omega), xg_64_6, xg_64_0, xV_58]
  have oc : offM q ci m s (uI (uI (uI s (q + 14) (upd (s.1 (q + 14)) 0 (nI (m + 1)))) (q + 10) (upd (s.1 (q + 10)) ci (nI (k + 1)))) (q + 16) (upd (s.1 (q + 16)) m (nI ci))) := by
    have a : offM q ci m s (uI s (q + 14) (upd (s.1 (q + 14)) 0 (nI (m + 1)))) := offG.w (Or.inl ⟨rfl, rfl⟩)
    have b : offM q ci m _ (uI (uI s (q + 14) (upd (s.1 (q + 14)) 0 (nI (m + 1)))) (q + 10) (upd ((uI s (q + 14) (upd (s.1 (q + 14)) 0 (nI (m + 1)))).1 (q + 10)) ci (nI (k + 1)))) := offG.w (chM_c (by omega))
    rw [uI_ne _ _ _ _ (show ¬ q + 10 = q + 14 by omega)] at b
    have e : offM q ci m (uI (uI s (q + 14) (upd (s.1 (q + 14)) 0 (nI (m + 1)))) (q + 10) (upd (s.1 (q + 10)) ci (nI (k + 1)))) (uI (uI (uI s (q + 14) (upd (s.1 (q + 14)) 0 (nI (m + 1)))) (q + 10) (upd (s.1 (q + 10)) ci (nI (k + 1)))) (q + 16) (upd ((uI (uI s (q + 14) (upd (s.1 (q + 14)) 0 (nI (m + 1)))) (q + 10) (upd (s.1 (q + 10)) ci (nI (k + 1)))).1 (q + 16)) m (nI ci))) := offG.w (chM_m (by omega))
    rw [uI_ne _ _ _ _ (show ¬ q + 16 = q + 10 by omega), uI_ne _ _ _ _ (show ¬ q + 16 = q + 14 by omega)] at e
    exact (a.tr b).tr e
  rw [u_now (hT.offM hQ.1 oc) hc, bI_s, xs_68, if_pos (mj_in_nI (by omega) (by decide)), nI_clamp (by omega), eR_r (by decide), uI_ne _ _ _ _ (show ¬ 68 = q + 16 by omega), uI_ne _ _ _ _ (show ¬ 68 = q + 10 by omega), uI_ne _ _ _ _ (show ¬ 68 = q + 14 by omega), wR_r (by decide), xV_64]
  change bN (mjF (D + 4) 130 [.ref 64, .int 1] (mjW0 (eR (mbS s q ci m c k) (c, 0, p, o, v, ag)))) _ = _
  have o9 : offM q ci m (mbS s q ci m c k) (uI (mbS s q ci m c k) 69 (upd ((mbS s q ci m c k).1 69) m (nI c1))) := offG.w (chM_m (by omega))
  have hT9 := hTb.offM hQ.1 o9
  rw [ht, bN_s, xg_64_7, xg_64_0, xV_58, u_now hTb hc1, bI_s, xs_69, if_pos (mj_in_nI (by omega) (by decide)), nI_clamp (by omega), eR_r (by decide), wR_r (by decide), xg_64_2, eR_2, uI_l, hQb.2.2, ymg_1 hQ.1, xg_64_0, xg_64_0, xV_58, u_now hT9 hc1, bI_s, xV_58, u_key hT9 hc1 hc1, bL_s, ys_15 hQ.1, if_pos (mj_in_nI (by omega) (by decide)), nI_clamp (by omega), xg_64_0, xV_58]
  rfl
end MJ59
