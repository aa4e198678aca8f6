/-! ===== a CLASS's head ===== -/
theorem uI_g (s : mjSt3) (h : Nat) (f : Nat → Int32) (h' j : Nat) : (uI s h f).1 h' j = if h' = h then f j else s.1 h' j := by
  by_cases e : h' = h
  · rw [if_pos e, e, uI_same]
  · rw [if_neg e, uI_ne _ _ _ _ e]
theorem upd_g (f : Nat → Int32) (j : Nat) (v : Int32) (i : Nat) : upd f j v i = if i = j then v else f i := rfl
/-- the head's rows -/
def HF (T : TT) (q ci fm : Nat) (s : mjSt3) (hd : HD) : Prop := s.1 (q + 9) ci = nI fm ∧ s.1 65 ci = nI hd.1 ∧ s.1 (q + 2) ci = (T hd.1).2.1 ∧ s.1 (q + 1) ci = nI hd.2.1 ∧ s.1 66 ci = (if hd.2.2.1 = 0 then -1 else nI (hd.2.2.1 - 1)) ∧ s.1 (q + 3) ci = nI hd.2.2.2.2 ∧ (hd.2.2.2.2 = 0 ∨ s.1 67 ci = nI hd.2.2.2.1)
/-- what a head leaves as it was -/
def HK (q ci : Nat) (s s' : mjSt3) : Prop := s'.1 (q + 14) = s.1 (q + 14) ∧ s'.1 (q + 6) = s.1 (q + 6) ∧ s'.1 (q + 7) = s.1 (q + 7) ∧ s'.1 (q + 10) = s.1 (q + 10) ∧ s'.1 (q + 18) = s.1 (q + 18) ∧ s'.1 (q + 20) = s.1 (q + 20) ∧ s'.1 (q + 16) = s.1 (q + 16)
section MJ55
variable {T : TT} {d N c q ci fm : Nat} {s : mjSt3} {f p o v : Int32} {ag : Nat → Int32}
noncomputable def k127 (R : mjR) (l0 : Nat) (l1 : Int32) (hp27 : mjH) : mjU := gR hp27 l0 8 4 (fun v28 => sI hp27 v28 l1 (-1 : Int32) (fun hp29 => gR hp29 l0 8 0 (fun v30 => rV hp29 v30 9 (bI (R 164 [.ref v30, .int (6 : Int32)] hp29) (fun v31 hp32 => (if v31 = 0 then b_127_144 R l0 l1 hp32 else gR hp32 l0 8 4 (fun v33 => gR hp32 l0 8 0 (fun v34 => rV hp32 v34 9 (bI (R 167 [.ref v34] hp32) (fun v35 hp36 => sI hp36 v33 l1 v35 (fun hp37 => gR hp37 l0 8 0 (fun v38 => rV hp37 v38 9 (bN (R 166 [.ref v38] hp37) (fun  hp39 => rV hp39 l0 8 (bN (R 130 [.ref l0, .int (0 : Int32)] hp39) (fun  hp40 => b_127_144 R l0 l1 hp40))))))))))))))))
theorem ch66 {q ci fm : Nat} : chR q ci fm 66 ci := Or.inr (Or.inr (Or.inl ⟨by omega, rfl⟩))
/-- where and { in a bad state -/
theorem n_144 (hT : TH T N s) (hf : ¬ f = 0) (i : Int32) : b_127_144 (mjF (d + 4)) 64 i (mjW0 (eR s (N, f, p, o, v, ag))) = some (none, mjW0 (eR s (N, f, p, o, v, ag))) := by
  unfold b_127_144 b_127_161
  rw [xg_64_0, xV_58, u_is hT (Nat.le_refl N), bI_s, i01, if_neg (kN hT (by decide)), xV_64, u_openN hT hf (by decide), bN_s]
theorem n_k127 (hT : TH T N s) (hQ : isP q) (hf : ¬ f = 0) (hi : ci < 16) : ∃ s', k127 (mjF (d + 4)) 64 (nI ci) (mjW0 (eR s (N, f, p, o, v, ag))) = some (none, mjW0 (eR s' (N, f, p, o, v, ag))) ∧ ∀ fm, offR q ci fm s s' := by
  have h66 : ∀ fm, offR q ci fm s (uI s 66 (upd (s.1 66) ci (-1))) := fun fm => offR.w ch66
  refine ⟨_, ?_, h66⟩
  unfold k127
  rw [xg_64_4, xs_66, if_pos (mj_in_nI hi (by decide)), nI_clamp (by omega), eR_r (by decide), wR_r (by decide), xg_64_0, xV_58, u_is (hT.off hQ (h66 0)) (Nat.le_refl N), bI_s, i01, if_neg (kN hT (by decide)), n_144 (hT.off hQ (h66 0)) hf]
/-- from where on -/
theorem x_144 (hT : TH T N s) (hQ : RQ q s) (hi : ci < 16) {o : Nat} (ho : o < 12) (hc : c ≤ N) (hz : s.1 (q + 3) ci = 0) : match pWhere T c with
    | .inl e => hbOK q ci fm s T N (b_127_144 (mjF (d + 4)) 64 (nI ci) (mjW0 (eR s (c, 0, p, nI o, v, ag)))) e
    | .inr w => ((T w.2).1 = 123 → w.2 < N ∧ ∃ s', b_127_144 (mjF (d + 4)) 64 (nI ci) (mjW0 (eR s (c, 0, p, nI o, v, ag))) = some (none, mjW0 (eR s' (w.2 + 1, 0, p, nI (o + 1), v, ag))) ∧ offR q ci fm s s' ∧ s'.1 (q + 3) ci = nI w.1 ∧ (w.1 = 0 ∨ s'.1 67 ci = nI (c + 1)) ∧ ∀ h, ¬ h = 67 → ¬ h = q + 3 → s'.1 h = s.1 h) ∧ (¬ (T w.2).1 = 123 → hbOK q ci fm s T N (b_127_144 (mjF (d + 4)) 64 (nI ci) (mjW0 (eR s (c, 0, p, nI o, v, ag)))) (F2 T w.2)) := by
  have hq : q = 2 ∨ q = 30 := hQ.1
  unfold b_127_144 b_127_161 pWhere
  rw [xg_64_0, xV_58, u_is hT hc, bI_s, i01]
  by_cases h7 : (T c).1 = 7
  · have hl := lt_of hT hc h7 (by decide)
    have h67 : ∀ fm, offR q ci fm s (uI s 67 (upd (s.1 67) ci (nI (c + 1)))) := fun fm => offR.w (Or.inr (Or.inr (Or.inl ⟨by omega, rfl⟩)))
    rw [if_pos h7, if_pos h7, xV_64]
    have h := x_ins (d := d) (p := p) (o := nI o) (v := v) (ag := ag) hQ hT hi hl hz
    cases hd : pIns T 9 0 (c + 1) with
    | inl e =>
      rw [hd] at h
      obtain ⟨he, s', h, o'⟩ := h
      rw [h, bN_s, xV_64, u_openN ((hT.off hQ.1 (h67 0)).off hQ.1 (o' 0)) (in_n0 he) (by decide), bN_s]
      exact ⟨he, _, _, _, _, rfl, (h67 fm).tr (o' fm)⟩
    | inr w =>
      rw [hd] at h
      obtain ⟨hw, _, h⟩ := h
      have oI : ∀ fm, offR q ci fm (uI s 67 (upd (s.1 67) ci (nI (c + 1)))) (uI (uI s 67 (upd (s.1 67) ci (nI (c + 1)))) (q + 3) (upd ((uI s 67 (upd (s.1 67) ci (nI (c + 1)))).1 (q + 3)) ci (nI w.1))) := fun fm => offR.w chR_i
      have hT' := (hT.off hQ.1 (h67 0)).off hQ.1 (oI 0)
      rw [h, bN_s, xV_64]
      refine ⟨fun h123 => ?_, fun h123 => ?_⟩
      · have hl2 := lt_of hT hw h123 (by decide)
        rw [u_open hT' hw h123 (by decide) ho, bN_s]
        refine ⟨hl2, _, rfl, (h67 fm).tr (oI fm), ?_, Or.inr ?_, fun h h1 h2 => ?_⟩
        · rw [uI_same]; exact if_pos rfl
        · rw [uI_ne _ _ _ _ (by omega), uI_same]; exact if_pos rfl
        · rw [uI_ne _ _ _ _ h2, uI_ne _ _ _ _ h1]
      · rw [u_open2 hT' hw h123, bN_s]
        exact ⟨F2_in T _, _, _, _, _, rfl, (h67 fm).tr (oI fm)⟩
  · rw [if_neg h7, if_neg h7, xV_64]
    refine ⟨fun h123 => ?_, fun h123 => ?_⟩
    · have hl2 := lt_of hT hc h123 (by decide)
      rw [u_open hT hc h123 (by decide) ho, bN_s]
      exact ⟨hl2, _, rfl, offR.rf, hz, Or.inl rfl, fun h h1 h2 => rfl⟩
    · rw [u_open2 hT hc h123, bN_s]
      exact ⟨F2_in T _, _, _, _, _, rfl, offR.rf⟩
/-- behind NAMES -/
theorem x_k127 (hT : TH T N s) (hQ : RQ q s) (hi : ci < 16) {o : Nat} (ho : o < 12) (hc : c ≤ N) (hz : s.1 (q + 3) ci = 0) : match pAbove T c with
    | .inl e => hbOK q ci fm s T N (k127 (mjF (d + 4)) 64 (nI ci) (mjW0 (eR s (c, 0, p, nI o, v, ag)))) e
    | .inr c2 => match pWhere T c2 with
      | .inl e => hbOK q ci fm s T N (k127 (mjF (d + 4)) 64 (nI ci) (mjW0 (eR s (c, 0, p, nI o, v, ag)))) e
      | .inr w => ((T w.2).1 = 123 → w.2 < N ∧ ∃ s', k127 (mjF (d + 4)) 64 (nI ci) (mjW0 (eR s (c, 0, p, nI o, v, ag))) = some (none, mjW0 (eR s' (w.2 + 1, 0, p, nI (o + 1), v, ag))) ∧ offR q ci fm s s' ∧ s'.1 (q + 3) ci = nI w.1 ∧ (w.1 = 0 ∨ s'.1 67 ci = nI (c2 + 1)) ∧ s'.1 66 ci = (if (T c).1 = 6 then nI c else -1) ∧ ∀ h, ¬ h = 66 → ¬ h = 67 → ¬ h = q + 3 → s'.1 h = s.1 h) ∧ (¬ (T w.2).1 = 123 → hbOK q ci fm s T N (k127 (mjF (d + 4)) 64 (nI ci) (mjW0 (eR s (c, 0, p, nI o, v, ag)))) (F2 T w.2)) := by
  have hq : q = 2 ∨ q = 30 := hQ.1
  have h66 : ∀ fm, offR q ci fm s (uI s 66 (upd (s.1 66) ci (-1))) := fun fm => offR.w ch66
  have hT1 := hT.off hQ.1 (h66 0)
  have hQ1 := hQ.off (h66 0)
  unfold k127 pAbove
  rw [xg_64_4, xs_66, if_pos (mj_in_nI hi (by decide)), nI_clamp (by omega), eR_r (by decide), wR_r (by decide), xg_64_0, xV_58, u_is hT1 hc, bI_s, i01]
  by_cases h6 : (T c).1 = 6
  · have hl := lt_of hT hc h6 (by decide)
    have e66 : uI (uI s 66 (upd (s.1 66) ci (-1))) 66 (upd ((uI s 66 (upd (s.1 66) ci (-1))).1 66) ci (nI c)) = uI s 66 (upd (s.1 66) ci (nI c)) := by rw [uI_same, upd_upd, uI_uI]
    have g66 : ∀ fm, offR q ci fm s (uI s 66 (upd (s.1 66) ci (nI c))) := fun fm => offR.w ch66
    have hT2 := hT.off hQ.1 (g66 0)
    have hQ2 := hQ.off (g66 0)
    rw [if_pos h6, if_pos h6, xg_64_4, xg_64_0, xV_58, u_now hT1 hc, bI_s, xs_66, if_pos (mj_in_nI hi (by decide)), nI_clamp (by omega), eR_r (by decide), wR_r (by decide), e66, xg_64_0, xV_58, u_skip hT2 hl, bN_s, xV_64]
    have h := x_kind (d := d + 1) (p := p) (o := nI o) (v := v) (ag := ag) hT2 (c := c + 1) hl
    cases hd : pKind T (c + 1) with
    | inl e =>
      rw [hd] at h
      obtain ⟨he, h⟩ := h
      rw [h, bN_s, n_144 hT2 (in_n0 he)]
      exact ⟨he, _, _, _, _, rfl, g66 fm⟩
    | inr c2 =>
      rw [hd] at h
      obtain ⟨hc2, h⟩ := h
      rw [h, bN_s]
      have k := x_144 (d := d) (fm := fm) (p := p) (v := v) (ag := ag) hT2 hQ2 hi ho hc2 (by rw [uI_ne _ _ _ _ (by omega)]; exact hz)
      show match pWhere T c2 with
        | .inl e => _
        | .inr w => _
      cases hw : pWhere T c2 with
      | inl e =>
        rw [hw] at k
        obtain ⟨he, s', o', v', ag', k, r⟩ := k
        exact ⟨he, s', o', v', ag', k, (g66 fm).tr r⟩
      | inr w =>
        rw [hw] at k
        refine ⟨fun h123 => ?_, fun h123 => ?_⟩
        · obtain ⟨k1, s', k2, k3, k4, k5, k6⟩ := k.1 h123
          refine ⟨k1, s', k2, (g66 fm).tr k3, k4, k5, ?_, fun h a b e => ?_⟩
          · rw [if_pos h6, k6 66 (by decide) (by omega), uI_same]; exact if_pos rfl
          · rw [k6 h b e, uI_ne _ _ _ _ a]
        · obtain ⟨he, s', o', v', ag', k, r⟩ := k.2 h123
          exact ⟨he, s', o', v', ag', k, (g66 fm).tr r⟩
  · rw [if_neg h6, if_neg h6]
    have k := x_144 (d := d) (fm := fm) (p := p) (v := v) (ag := ag) hT1 hQ1 hi ho hc (by rw [uI_ne _ _ _ _ (by omega)]; exact hz)
    show match pWhere T c with
      | .inl e => _
      | .inr w => _
    cases hw : pWhere T c with
    | inl e =>
      rw [hw] at k
      obtain ⟨he, s', o', v', ag', k, r⟩ := k
      exact ⟨he, s', o', v', ag', k, (h66 fm).tr r⟩
    | inr w =>
      rw [hw] at k
      refine ⟨fun h123 => ?_, fun h123 => ?_⟩
      · obtain ⟨k1, s', k2, k3, k4, k5, k6⟩ := k.1 h123
        refine ⟨k1, s', k2, (h66 fm).tr k3, k4, k5, ?_, fun h a b e => ?_⟩
        · rw [if_neg h6, k6 66 (by decide) (by omega), uI_same]; exact if_pos rfl
        · rw [k6 h b e, uI_ne _ _ _ _ a]
      · obtain ⟨he, s', o', v', ag', k, r⟩ := k.2 h123
        exact ⟨he, s', o', v', ag', k, (h66 fm).tr r⟩
end MJ55
