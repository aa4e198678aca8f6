/-! ===== MEMBERS ===== -/
/-- TYPE's token, NAME's token, a METHOD?, PARAMS, BLOCK's token, VARIABLES, first order, KIND -/
abbrev MD : Type := Nat × Nat × Bool × List (Nat × Nat × Int32) × Nat × Nat × Nat × Int32
/-- cursor, the MEMBER, KINDS' tokens, orders, calls' arguments -/
abbrev PR : Type := Nat × MD × List Nat × List Row × List (Nat × Nat)
def oOver : Row := (28, -1, 0, 0, 0)
def pMem (T : TT) (M k c kq i0 : Nat) : (Nat × Nat) ⊕ PR :=
  if k = 24 then .inl (3, c) else (match pType T c with
  | .inl e => .inl e
  | .inr c1 => if (T c1).1 = 3 then (if (T (c1 + 1)).1 = 59 then .inr (c1 + 2, (c, c1, false, [], 0, 0, 0, tyK T c kq), tyL T c, [], [])
      else (match pParams T (kq + (tyL T c).length) (c1 + 1) with
        | .inl e => .inl e
        | .inr y => (match prS T M 30 0 1 y.1 y.2.1.length (kq + (tyL T c).length + y.2.2.length) i0 with
          | .inl e => .inl e
          | .inr z => .inr (z.1, (c, c1, true, y.2.1, y.1, z.2.1, i0, tyK T c kq), tyL T c ++ y.2.2 ++ z.2.2.1, z.2.2.2.1 ++ [oOver], z.2.2.2.2)))) else .inl (F2 T c1))
/-- a MEMBER's rows -/
def MF (q ci m num : Nat) (s : mjSt3) (md : MD) : Prop := s.1 (q + 16) m = nI ci ∧ s.1 68 m = nI md.1 ∧ s.1 69 m = nI md.2.1 ∧ s.2.1 (q + 15) m = s.2.1 62 md.2.1 ∧ s.1 (q + 18) m = (if md.2.2.1 = true then 1 else 0) ∧ s.1 (q + 19) m = nI num ∧ s.1 (q + 20) m = nI md.2.2.2.1.length ∧ (md.2.2.1 = true → s.1 70 m = nI md.2.2.2.2.1 ∧ s.1 (q + 22) m = nI md.2.2.2.2.2.1)
noncomputable def k136 (R : mjR) (l0 : Nat) (l1 v2 : Int32) (hp34 : mjH) : mjU := gR hp34 l0 8 0 (fun v35 => rV hp34 v35 9 (bI (R 164 [.ref v35, .int (59 : Int32)] hp34) (fun v36 hp37 => (if v36 = 0 then gR hp37 l0 8 2 (fun v38 => gR hp37 v38 6 4 (fun v39 => sB hp37 v39 v2 (1 : Int32) (fun hp40 => gR hp40 l0 8 2 (fun v41 => gR hp40 v41 6 5 (fun v42 => gR hp40 l0 8 1 (fun v43 => gR hp40 v43 7 6 (fun v44 => aI hp40 v44 l1 (fun v45 => sI hp40 v42 v2 v45 (fun hp46 => gR hp46 l0 8 1 (fun v47 => gR hp46 v47 7 6 (fun v48 => aI hp46 v48 l1 (fun v49 => sI hp46 v48 l1 (v49 + (1 : Int32)) (fun hp50 => rV hp50 l0 8 (bN (R 137 [.ref l0, .int v2] hp50) (fun  hp51 => gR hp51 l0 8 2 (fun v52 => gR hp51 v52 6 6 (fun v53 => aI hp51 v53 v2 (fun v54 => pI hp51 l0 8 10 v54 (fun hp55 => gR hp55 l0 8 8 (fun v56 => gR hp55 l0 8 0 (fun v57 => rV hp55 v57 9 (bI (R 167 [.ref v57] hp55) (fun v58 hp59 => sI hp59 v56 v2 v58 (fun hp60 => rV hp60 l0 8 (bN (R 139 [.ref l0] hp60) (fun  hp61 => gR hp61 l0 8 2 (fun v62 => gR hp61 v62 6 8 (fun v63 => gI hp61 l0 8 10 (fun v64 => sI hp61 v63 v2 v64 (fun hp65 => some (none, hp65))))))))))))))))))))))))))))))) else gR hp37 l0 8 0 (fun v66 => rV hp37 v66 9 (bN (R 166 [.ref v66] hp37) (fun  hp67 => gR hp67 l0 8 2 (fun v68 => gR hp67 v68 6 5 (fun v69 => gR hp67 l0 8 1 (fun v70 => gR hp67 v70 7 7 (fun v71 => aI hp67 v71 l1 (fun v72 => sI hp67 v69 v2 v72 (fun hp73 => gR hp73 l0 8 1 (fun v74 => gR hp73 v74 7 7 (fun v75 => aI hp73 v75 l1 (fun v76 => sI hp73 v75 l1 (v76 + (1 : Int32)) (fun hp77 => some (none, hp77))))))))))))))))))
section MJ58
variable {T : TT} {d N c q ci m : Nat} {s : mjSt3} {f p o v : Int32} {ag : Nat → Int32}
theorem n_params (hT : TH T N s) (hQ : RQ q s) (hm : m < 385) (hf : ¬ f = 0) (hz : s.1 (q + 20) m = 0) : mjF (d + 4) 137 [.ref 64, .int (nI m)] (mjW0 (eR s (N, f, p, o, v, ag))) = some (none, mjW0 (eR (bsP s q m 1) (N, f, p, o - 1, v, ag))) := by
  rw [e_137]
  unfold f_137 b_137_0 b_137_23
  rw [xV_64, show mjN = 99999998 + 2 from rfl, u_openN hT hf (by decide), bN_s, xg_64_0, xV_58, u_is hT (Nat.le_refl N), bI_s, i01, if_neg (kN hT (by decide)), L137_S]
  unfold b_137_26
  rw [if_neg (show ¬ (6 : Int32) < 0 by decide), if_neg (show ¬ (1 : Int32) = 0 by decide), if_neg (show ¬ (0 : Int32) = 6 by decide)]
  unfold b_137_57
  have k := n_57 (d := d) (f := f) (p := p) (o := o) (v := v) (ag := ag) hT hQ hm (k := 0) (by omega) hf 99999998
  rw [bsP_0 hz] at k
  rw [xV_64, x_typeN hT hf, bN_s]
  exact k
theorem chM_m {q ci m h : Nat} (hh : h = 68 ∨ h = 69 ∨ h = 70 ∨ h = q + 16 ∨ h = q + 18 ∨ h = q + 19 ∨ h = q + 20 ∨ h = q + 22) : chM q ci m h m := Or.inr (Or.inr ⟨hh, rfl⟩)
theorem chM_c {q ci m h : Nat} (hh : h = q + 6 ∨ h = q + 7 ∨ h = q + 10) : chM q ci m h ci := Or.inr (Or.inl ⟨hh, rfl⟩)
/-- the base of a METHOD ahead of its PARAMS -/
def meS (s : mjSt3) (q ci m : Nat) : mjSt3 := uI (uI (uI s (q + 18) (upd (s.1 (q + 18)) m 1)) (q + 19) (upd (s.1 (q + 19)) m (s.1 (q + 6) ci))) (q + 6) (upd (s.1 (q + 6)) ci (s.1 (q + 6) ci + 1))
theorem meS_at : (meS s q ci m).1 (q + 18) = upd (s.1 (q + 18)) m 1 ∧ (meS s q ci m).1 (q + 19) = upd (s.1 (q + 19)) m (s.1 (q + 6) ci) ∧ (meS s q ci m).1 (q + 6) = upd (s.1 (q + 6)) ci (s.1 (q + 6) ci + 1) ∧ (∀ h, ¬ h = q + 18 → ¬ h = q + 19 → ¬ h = q + 6 → (meS s q ci m).1 h = s.1 h) ∧ (meS s q ci m).2 = s.2 := by
  unfold meS
  refine ⟨?_, ?_, ?_, fun h a b e => ?_, rfl⟩
  · rw [uI_ne _ _ _ _ (by omega), uI_ne _ _ _ _ (by omega), uI_same]
  · rw [uI_ne _ _ _ _ (by omega), uI_same]
  · rw [uI_same]
  · rw [uI_ne _ _ _ _ e, uI_ne _ _ _ _ b, uI_ne _ _ _ _ a]
theorem offG_of {A B : Nat → Nat → Prop} {s s' : mjSt3} (h1 : ∀ h j, ¬ A h j → s'.1 h j = s.1 h j) (h2 : s'.2 = s.2) : offG A B s s' := ⟨h1, fun _ _ _ => by rw [h2], by rw [h2]⟩
theorem meS_off : offM q ci m s (meS s q ci m) := by
  have f := meS_at (s := s) (q := q) (ci := ci) (m := m)
  refine offG_of (fun h j n => ?_) f.2.2.2.2
  by_cases e1 : h = q + 18
  · rw [e1, f.1]; exact if_neg (fun e => n (by rw [e, e1]; exact chM_m (by omega)))
  by_cases e2 : h = q + 19
  · rw [e2, f.2.1]; exact if_neg (fun e => n (by rw [e, e2]; exact chM_m (by omega)))
  by_cases e3 : h = q + 6
  · rw [e3, f.2.2.1]; exact if_neg (fun e => n (by rw [e, e3]; exact chM_c (by omega)))
  rw [f.2.2.2.1 h e1 e2 e3]
theorem nar1 : vp_nar .boolean 1 = 1 := by rfl
/-- to ahead of PARAMS -/
theorem k136_me (hT : TH T N s) (hQ : RQ q s) (hi : ci < 16) (hm : m < 385) (hc : c ≤ N) (h59 : ¬ (T c).1 = 59) : k136 (mjF (d + 4)) 64 (nI ci) (nI m) (mjW0 (eR s (c, f, p, o, v, ag))) = (bN (mjF (d + 4) 137 [.ref 64, .int (nI m)] (mjW0 (eR (meS s q ci m) (c, f, p, o, v, ag)))) fun hp51 => gR hp51 64 8 2 (fun v52 => gR hp51 v52 6 6 (fun v53 => aI hp51 v53 (nI m) (fun v54 => pI hp51 64 8 10 v54 (fun hp55 => gR hp55 64 8 8 (fun v56 => gR hp55 64 8 0 (fun v57 => rV hp55 v57 9 (bI (mjF (d + 4) 167 [.ref v57] hp55) (fun v58 hp59 => sI hp59 v56 (nI m) v58 (fun hp60 => rV hp60 64 8 (bN (mjF (d + 4) 139 [.ref 64] hp60) (fun  hp61 => gR hp61 64 8 2 (fun v62 => gR hp61 v62 6 8 (fun v63 => gI hp61 64 8 10 (fun v64 => sI hp61 v63 (nI m) v64 (fun hp65 => some (none, hp65))))))))))))))))) := by
  have hq : q = 2 ∨ q = 30 := hQ.1
  have q1 : s.2.2 64 1 = q := hQ.2.1
  have q2 : s.2.2 64 2 = q + 14 := hQ.2.2
  unfold k136
  rw [xg_64_0, xV_58, u_is hT hc, bI_s, i01, if_neg h59, xg_64_2, eR_2, q2, ymg_4 hQ.1, ys_18 hQ.1, if_pos (mj_in_nI hm (by decide)), nI_clamp (by omega), nar1, eR_p hQ.1 (by omega), wR_p hQ.1 (by omega), xg_64_2, eR_2, uI_l, q2, ymg_5 hQ.1, xg_64_1, eR_2, uI_l, q1, yg_6 hQ.1, ya_6 hQ.1, if_pos (mj_in_nI hi (by decide)), nI_clamp (by omega), eR_p hQ.1 (by omega), uI_ne _ _ _ _ (show ¬ q + 6 = q + 18 by omega), ys_19 hQ.1, if_pos (mj_in_nI hm (by decide)), nI_clamp (by omega), eR_p hQ.1 (by omega), uI_ne _ _ _ _ (show ¬ q + 19 = q + 18 by omega), wR_p hQ.1 (by omega), xg_64_1, eR_2, uI_l, uI_l, q1, yg_6 hQ.1, ya_6 hQ.1, if_pos (mj_in_nI hi (by decide)), nI_clamp (by omega), eR_p hQ.1 (by omega), uI_ne _ _ _ _ (show ¬ q + 6 = q + 19 by omega), uI_ne _ _ _ _ (show ¬ q + 6 = q + 18 by omega), ys_6 hQ.1, if_pos (mj_in_nI hi (by decide)), nI_clamp (by omega), eR_p hQ.1 (by omega), uI_ne _ _ _ _ (show ¬ q + 6 = q + 19 by omega), uI_ne _ _ _ _ (show ¬ q + 6 = q + 18 by omega), wR_p hQ.1 (by omega), xV_64]
  rfl
/-- from behind PARAMS on, with k of them -/
theorem k136_b (hT : TH T N s) (hQ : RQ q s) (hm : m < 385) (hc : c ≤ N) {w : Int32} (hk : s.1 (q + 20) m = w) : (gR (mjW0 (eR s (c, f, p, o, v, ag))) 64 8 2 (fun v52 => gR (mjW0 (eR s (c, f, p, o, v, ag))) v52 6 6 (fun v53 => aI (mjW0 (eR s (c, f, p, o, v, ag))) v53 (nI m) (fun v54 => pI (mjW0 (eR s (c, f, p, o, v, ag))) 64 8 10 v54 (fun hp55 => gR hp55 64 8 8 (fun v56 => gR hp55 64 8 0 (fun v57 => rV hp55 v57 9 (bI (mjF (d + 4) 167 [.ref v57] hp55) (fun v58 hp59 => sI hp59 v56 (nI m) v58 (fun hp60 => rV hp60 64 8 (bN (mjF (d + 4) 139 [.ref 64] hp60) (fun  hp61 => gR hp61 64 8 2 (fun v62 => gR hp61 v62 6 8 (fun v63 => gI hp61 64 8 10 (fun v64 => sI hp61 v63 (nI m) v64 (fun hp65 => some (none, hp65))))))))))))))))) = (bN (mjF (d + 4) 139 [.ref 64] (mjW0 (eR (uI s 70 (upd (s.1 70) m (nI c))) (c, f, p, o, w, ag)))) (fun  hp61 => gR hp61 64 8 2 (fun v62 => gR hp61 v62 6 8 (fun v63 => gI hp61 64 8 10 (fun v64 => sI hp61 v63 (nI m) v64 (fun hp65 => some (none, hp65))))))) := by
  rw [xg_64_2, eR_2, hQ.2.2, ymg_6 hQ.1, ya_20 hQ.1, if_pos (mj_in_nI hm (by decide)), nI_clamp (by omega), eR_p hQ.1 (by omega), hk, xp_64_10, wR_v, xg_64_8, xg_64_0, xV_58]
  show bI (mjF (d + 4) 167 [.ref 58] (mjW0 (eR s (c, f, p, o, w, ag)))) _ = _
  rw [u_now hT hc, bI_s, xs_70, if_pos (mj_in_nI hm (by decide)), nI_clamp (by omega), eR_r (by decide), wR_r (by decide), xV_64]
/-- the VARIABLES' number is written -/
theorem k136_e (hQ : RQ q s) (hm : m < 385) : (gR (mjW0 (eR s (c, f, p, o, v, ag))) 64 8 2 (fun v62 => gR (mjW0 (eR s (c, f, p, o, v, ag))) v62 6 8 (fun v63 => gI (mjW0 (eR s (c, f, p, o, v, ag))) 64 8 10 (fun v64 => sI (mjW0 (eR s (c, f, p, o, v, ag))) v63 (nI m) v64 (fun hp65 => (some (none, hp65) : mjU)))))) = some (none, mjW0 (eR (uI s (q + 22) (upd (s.1 (q + 22)) m v)) (c, f, p, o, v, ag))) := by
  rw [xg_64_2, eR_2, hQ.2.2, ymg_8 hQ.1, xg_64_10, eR_v, ys_22 hQ.1, if_pos (mj_in_nI hm (by decide)), nI_clamp (by omega), eR_p hQ.1 (by omega), wR_p hQ.1 (by omega)]
theorem n_k136 (hT : TH T N s) (hQ : RQ q s) (hi : ci < 16) (hm : m < 385) (hf : ¬ f = 0) (hz : s.1 (q + 20) m = 0) : ∃ s' o' v', k136 (mjF (d + 4)) 64 (nI ci) (nI m) (mjW0 (eR s (N, f, p, o, v, ag))) = some (none, mjW0 (eR s' (N, f, p, o', v', ag))) ∧ offM q ci m s s' := by
  have o1 : offM q ci m s (meS s q ci m) := meS_off
  have z1 : (meS s q ci m).1 (q + 20) m = 0 := by rw [meS_at.2.2.2.1 (q + 20) (by omega) (by omega) (by omega)]; exact hz
  have o2 : offM q ci m (meS s q ci m) (bsP (meS s q ci m) q m 1) := bsP_off 1
  have o3 : offM q ci m (bsP (meS s q ci m) q m 1) (uI (bsP (meS s q ci m) q m 1) 70 (upd ((bsP (meS s q ci m) q m 1).1 70) m (nI N))) := offG.w (chM_m (by omega))
  have e : (bsP (meS s q ci m) q m 1).1 (q + 20) m = nI 1 := by unfold bsP; rw [uI_same]; exact if_pos rfl
  have hT3 := (((hT.offM hQ.1 o1).offM hQ.1 o2).offM hQ.1 o3)
  have hQ3 := (((hQ.offM o1).offM o2).offM o3)
  have k : k136 (mjF (d + 4)) 64 (nI ci) (nI m) (mjW0 (eR s (N, f, p, o, v, ag))) = some (none, mjW0 (eR (uI (uI (bsP (meS s q ci m) q m 1) 70 (upd ((bsP (meS s q ci m) q m 1).1 70) m (nI N))) (q + 22) (upd ((uI (bsP (meS s q ci m) q m 1) 70 (upd ((bsP (meS s q ci m) q m 1).1 70) m (nI N))).1 (q + 22)) m (nI 1))) (N, f, p, o - 1 - 1, nI 1, ag))) := by
    rw [k136_me hT hQ hi hm (Nat.le_refl N) (kN hT (by decide)), n_params (hT.offM hQ.1 o1) (hQ.offM o1) hm hf z1, bN_s, k136_b ((hT.offM hQ.1 o1).offM hQ.1 o2) ((hQ.offM o1).offM o2) hm (Nat.le_refl N) e, n_block hT3 hf, bN_s, k136_e hQ3 hm]
  exact ⟨_, _, _, k, ((o1.tr o2).tr o3).tr (offG.w (chM_m (h := q + 22) (by omega)))⟩
end MJ58
