/-! ===== the class reads a TEXT so: CLASSES and main ===== -/
section MJ63
variable {T : TT} {N q : Nat} {s : mjSt3} {f p o v : Int32} {ag : Nat → Int32}
/-- bad at the end of the TEXT -/
def tbOK (q : Nat) (s : mjSt3) (T : TT) (N : Nat) (u : mjU) (e : Nat × Nat) : Prop := (e.1 = 1 ∨ e.1 = 2 ∨ e.1 = 3) ∧ ∃ (s' : mjSt3) (o' v' : Int32) (ag' : Nat → Int32), u = some (none, mjW0 (eR s' (N, nI e.1, (T e.2).2.1, o', v', ag'))) ∧ offL q s s'
theorem w70_L {q : Nat} (hq : isP q) (f : Nat → Int32) : offL q s (uI s 70 f) := by
  have hq' : q = 2 ∨ q = 30 := hq
  exact ⟨fun h _ b => uI_ne _ _ _ _ (by omega), fun _ _ _ => rfl, fun _ _ _ _ => rfl⟩
theorem wq_L {q k : Nat} (hk : k = 22) (f : Nat → Int32) : offL q s (uI s (q + k) f) := ⟨fun h a _ => uI_ne _ _ _ _ (by omega), fun _ _ _ => rfl, fun _ _ _ _ => rfl⟩
theorem TH.w {h : Nat} {f : Nat → Int32} (hT : TH T N s) (h1 : ¬ h = 58) (h2 : ¬ h = 60) (h3 : ¬ h = 61) : TH T N (uI s h f) := by
  obtain ⟨a, b, c, d⟩ := hT
  refine ⟨?_, b, c, fun k hk => ⟨?_, ?_⟩⟩
  · rw [uI_ne _ _ _ _ (fun e => h1 e.symm)]; exact a
  · rw [uI_ne _ _ _ _ (fun e => h2 e.symm)]; exact (d k hk).1
  · rw [uI_ne _ _ _ _ (fun e => h3 e.symm)]; exact (d k hk).2
/-- main, in a bad state -/
theorem n_81 (hT : TH T N s) (hQ : RQ q s) (hf : ¬ f = 0) {d : Nat} : ∃ s' o' v', b_126_81 (mjF (d + 4)) 64 (mjW0 (eR s (N, f, p, o, v, ag))) = some (none, mjW0 (eR s' (N, f, p, o', v', ag))) ∧ offL q s s' := by
  have hq : q = 2 ∨ q = 30 := hQ.1
  have hT1 : TH T N (uI s 70 (upd (s.1 70) 384 (nI N))) := hT.w (by decide) (by decide) (by decide)
  have hT2 : TH T N (uI (uI s 70 (upd (s.1 70) 384 (nI N))) (q + 22) (upd ((uI s 70 (upd (s.1 70) 384 (nI N))).1 (q + 22)) 384 0)) := hT1.w (by omega) (by omega) (by omega)
  have k : b_126_81 (mjF (d + 4)) 64 (mjW0 (eR s (N, f, p, o, v, ag))) = some (none, mjW0 (eR (uI (uI s 70 (upd (s.1 70) 384 (nI N))) (q + 22) (upd ((uI s 70 (upd (s.1 70) 384 (nI N))).1 (q + 22)) 384 0)) (N, f, p, o - 1, 0, ag))) := by
    unfold b_126_81
    rw [xg_64_0, xV_58, u_needN hT hf, bN_s, xp_64_10, wR_v, xg_64_8, xg_64_0, xV_58]
    show bI (mjF (d + 4) 167 [.ref 58] (mjW0 (eR s (N, f, p, o, 0, ag)))) _ = _
    rw [u_now hT (Nat.le_refl N), bI_s, xs_70, if_pos (show mj_in 384 385 = true by decide), show (384 : Int32).toNatClampNeg = 384 from rfl, eR_r (by decide), wR_r (by decide), xV_64, n_block hT1 hf, bN_s, xg_64_2, eR_2, uI_l, hQ.2.2, ymg_8 hQ.1, xg_64_10, eR_v, ys_22 hQ.1, if_pos (show mj_in 384 385 = true by decide), show (384 : Int32).toNatClampNeg = 384 from rfl, eR_p hQ.1 (by omega), wR_p hQ.1 (by omega), xg_64_0, xV_58, u_is hT2 (Nat.le_refl N), bI_s, i01, if_pos hT.2.2.1]
  exact ⟨_, _, _, k, (w70_L hQ.1 _).tr (wq_L (by omega) _)⟩
/-- main -/
theorem x_81 (hT : TH T N s) (hQ : RQ q s) {D c kq i0 : Nat} (hD : 192 ≤ D) (hc : c ≤ N) : match (if (T c).1 = 9 then (match prS T (N + 1) 30 0 0 (c + 1) 0 kq i0 with
      | .inl e => .inl e
      | .inr b => if (T b.1).1 = 0 then .inr b else .inl (F2 T b.1)) else .inl (F2 T c) : PY) with
    | .inl e => tbOK q s T N (b_126_81 (mjF D) 64 (mjW0 (eR s (c, 0, p, nI 0, v, ag)))) e
    | .inr b => b.1 ≤ N ∧ b_126_81 (mjF D) 64 (mjW0 (eR s (c, 0, p, nI 0, v, ag))) = some (none, mjW0 (eR (uI (uI s 70 (upd (s.1 70) 384 (nI (c + 1)))) (q + 22) (upd ((uI s 70 (upd (s.1 70) 384 (nI (c + 1)))).1 (q + 22)) 384 (nI b.2.1))) (b.1, 0, p, nI 0, nI b.2.1, rAg b.2.2.2.2 ag))) := by
  obtain ⟨D, rfl⟩ : ∃ e, D = e + 192 := ⟨D - 192, by omega⟩
  have hq : q = 2 ∨ q = 30 := hQ.1
  by_cases h9 : (T c).1 = 9
  · have hl := lt_of hT hc h9 (by decide)
    have hT1 : TH T N (uI s 70 (upd (s.1 70) 384 (nI (c + 1)))) := hT.w (by decide) (by decide) (by decide)
    rw [if_pos h9]
    unfold b_126_81
    rw [xg_64_0, xV_58, u_need hT hc h9 (by decide), bN_s, xp_64_10, wR_v, xg_64_8, xg_64_0, xV_58]
    have k := (rdS_ok hT1 30 (D + 192) 0 (c + 1) 0 kq i0 p ag (by omega) (by omega) hl (by omega)).1 (by omega)
    rw [show bI (mjF (D + 192) 167 [.ref 58] (mjW0 (eR s ((c + 1, 0, p, nI 0, v, ag).1, (c + 1, 0, p, nI 0, v, ag).2.1, (c + 1, 0, p, nI 0, v, ag).2.2.1, (c + 1, 0, p, nI 0, v, ag).2.2.2.1, 0, (c + 1, 0, p, nI 0, v, ag).2.2.2.2.2)))) = bI (mjF (D + 192) 167 [.ref 58] (mjW0 (eR s (c + 1, 0, p, nI 0, 0, ag)))) from rfl, u_now hT hl, bI_s, xs_70, if_pos (show mj_in 384 385 = true by decide), show (384 : Int32).toNatClampNeg = 384 from rfl, eR_r (by decide), wR_r (by decide), xV_64]
    cases hS : prS T (N + 1) 30 0 0 (c + 1) 0 kq i0 with
    | inl e =>
      rw [hS] at k
      obtain ⟨he, o', v', ag', k⟩ := k
      have hT2 : TH T N (uI (uI s 70 (upd (s.1 70) 384 (nI (c + 1)))) (q + 22) (upd ((uI s 70 (upd (s.1 70) 384 (nI (c + 1)))).1 (q + 22)) 384 v')) := hT1.w (by omega) (by omega) (by omega)
      rw [show mjF (D + 192) 139 [.ref 64] (mjW0 (eR (uI s 70 (upd (s.1 70) 384 (nI (c + 1)))) (c + 1, 0, p, nI 0, 0, ag))) = _ from k, bN_s, xg_64_2, eR_2, uI_l, hQ.2.2, ymg_8 hQ.1, xg_64_10, eR_v, ys_22 hQ.1, if_pos (show mj_in 384 385 = true by decide), show (384 : Int32).toNatClampNeg = 384 from rfl, eR_p hQ.1 (by omega), wR_p hQ.1 (by omega), xg_64_0, xV_58, u_is hT2 (Nat.le_refl N), bI_s, i01, if_pos hT.2.2.1]
      exact ⟨he, _, _, _, _, rfl, (w70_L hQ.1 _).tr (wq_L (by omega) _)⟩
    | inr b =>
      rw [hS] at k
      obtain ⟨hb, k⟩ := k
      have hT2 : TH T N (uI (uI s 70 (upd (s.1 70) 384 (nI (c + 1)))) (q + 22) (upd ((uI s 70 (upd (s.1 70) 384 (nI (c + 1)))).1 (q + 22)) 384 (nI b.2.1))) := hT1.w (by omega) (by omega) (by omega)
      rw [show mjF (D + 192) 139 [.ref 64] (mjW0 (eR (uI s 70 (upd (s.1 70) 384 (nI (c + 1)))) (c + 1, 0, p, nI 0, 0, ag))) = _ from k, bN_s, xg_64_2, eR_2, uI_l, hQ.2.2, ymg_8 hQ.1, xg_64_10, eR_v, ys_22 hQ.1, if_pos (show mj_in 384 385 = true by decide), show (384 : Int32).toNatClampNeg = 384 from rfl, eR_p hQ.1 (by omega), wR_p hQ.1 (by omega), xg_64_0, xV_58, u_is hT2 hb, bI_s, i01]
      by_cases h0 : (T b.1).1 = 0
      · rw [if_pos h0]
        simp only [if_pos h0]
        exact ⟨hb, True.intro⟩
      · rw [if_neg h0, xg_64_0, xV_58, u_ref2 hT2 hb, bN_s]
        simp only [if_neg h0]
        exact ⟨F2_in T _, _, _, _, _, rfl, (w70_L hQ.1 _).tr (wq_L (by omega) _)⟩
  · rw [if_neg h9]
    have hT1 : TH T N (uI s 70 (upd (s.1 70) 384 (nI N))) := hT.w (by decide) (by decide) (by decide)
    have hT2 : TH T N (uI (uI s 70 (upd (s.1 70) 384 (nI N))) (q + 22) (upd ((uI s 70 (upd (s.1 70) 384 (nI N))).1 (q + 22)) 384 0)) := hT1.w (by omega) (by omega) (by omega)
    unfold b_126_81
    rw [xg_64_0, xV_58, u_need2 hT hc h9, bN_s, xp_64_10, wR_v, xg_64_8, xg_64_0, xV_58]
    show tbOK q s T N (bI (mjF (D + 192) 167 [.ref 58] (mjW0 (eR s (N, nI (F2 T c).1, (T (F2 T c).2).2.1, nI 0, 0, ag)))) _) _
    rw [u_now hT (Nat.le_refl N), bI_s, xs_70, if_pos (show mj_in 384 385 = true by decide), show (384 : Int32).toNatClampNeg = 384 from rfl, eR_r (by decide), wR_r (by decide), xV_64, n_block hT1 (F2_n0 T _), bN_s, xg_64_2, eR_2, uI_l, hQ.2.2, ymg_8 hQ.1, xg_64_10, eR_v, ys_22 hQ.1, if_pos (show mj_in 384 385 = true by decide), show (384 : Int32).toNatClampNeg = 384 from rfl, eR_p hQ.1 (by omega), wR_p hQ.1 (by omega), xg_64_0, xV_58, u_is hT2 (Nat.le_refl N), bI_s, i01, if_pos hT.2.2.1]
    exact ⟨F2_in T _, _, _, _, _, rfl, (w70_L hQ.1 _).tr (wq_L (by omega) _)⟩
/-- in a bad state no CLASS begins -/
theorem n_20 (hT : TH T N s) (hQ : RQ q s) (hf : ¬ f = 0) {d : Nat} (n : Nat) (i : Int32) : ∃ s' o' v', L_126_20 (mjF (d + 4)) (n + 1) 64 i (mjW0 (eR s (N, f, p, o, v, ag))) = some (none, mjW0 (eR s' (N, f, p, o', v', ag))) ∧ offL q s s' := by
  obtain ⟨s', o', v', k, r⟩ := n_81 (d := d) (p := p) (o := o) (v := v) (ag := ag) hT hQ hf
  refine ⟨s', o', v', ?_, r⟩
  rw [L20_S]
  unfold b_126_20
  rw [xg_64_0, xV_58, u_is hT (Nat.le_refl N), bI_s, i01, if_neg (kN hT (by decide)), k, ite_self]
end MJ63
