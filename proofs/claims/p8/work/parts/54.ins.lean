/-! ===== INS; a CLASS's head ===== -/
section MJ54
variable {T : TT} {d N c q ci fm : Nat} {s : mjSt3} {f p o v : Int32} {ag : Nat → Int32}
theorem chR_i {q ci fm : Nat} : chR q ci fm (q + 3) ci := Or.inr (Or.inr (Or.inl ⟨by omega, rfl⟩))
theorem n_in (hT : TH T N s) (hf : ¬ f = 0) (i : Int32) : mjF (d + 2) 133 [.ref 64, .int i] (mjW0 (eR s (N, f, p, o, v, ag))) = some (none, mjW0 (eR s (N, f, p, o, v, ag))) := by
  rw [e_133]
  unfold f_133 b_133_0
  rw [xg_64_0, xV_58, u_is hT (Nat.le_refl N), bI_s, i01, if_neg (kN hT (by decide)), xg_64_0, xV_58, u_refN hT hf, bN_s]
theorem L132_S (R : mjR) (n : Nat) (a : Nat) (b c : Int32) (hp : mjH) : L_132_27 R (n + 1) a b c hp = b_132_27 R (L_132_27 R n) a b c hp := rfl
theorem n_ins27 (hT : TH T N s) (n : Nat) (i k : Int32) : L_132_27 (mjF (d + 2)) (n + 1) 64 i k (mjW0 (eR s (N, f, p, o, v, ag))) = some (none, mjW0 (eR s (N, f, p, o, v, ag))) := by
  rw [L132_S]
  unfold b_132_27
  simp only [xg_64_0, xV_58, u_is hT (Nat.le_refl N), bI_s, i01, if_neg (kN hT (k := 44) (by decide)), if_true, ite_self]
/-- one IN, as the result says -/
def inR (T : TT) (k c : Nat) : (Nat × Nat) ⊕ Nat := if (T c).1 = 3 then (if k = 8 then .inl (3, c) else if (T (c + 1)).1 = 8 then (if (T (c + 2)).1 = 3 then .inr (c + 3) else .inl (F2 T (c + 2))) else .inl (F2 T (c + 1))) else .inl (F2 T c)
theorem x_in (hT : TH T N s) (hQ : RQ q s) (hc : c ≤ N) (hi : ci < 16) {k : Nat} (hk : k ≤ 8) (hn : s.1 (q + 3) ci = nI k) : match inR T k c with
    | .inl e => (e.1 = 1 ∨ e.1 = 2 ∨ e.1 = 3) ∧ ∃ s', mjF (d + 3) 133 [.ref 64, .int (nI ci)] (mjW0 (eR s (c, 0, p, o, v, ag))) = some (none, mjW0 (eR s' (N, nI e.1, (T e.2).2.1, o, v, ag))) ∧ ∀ fm, offR q ci fm s s'
    | .inr c' => c' ≤ N ∧ k < 8 ∧ c < N ∧ mjF (d + 3) 133 [.ref 64, .int (nI ci)] (mjW0 (eR s (c, 0, p, o, v, ag))) = some (none, mjW0 (eR (uI s (q + 3) (upd (s.1 (q + 3)) ci (nI (k + 1)))) (c', 0, p, o, v, ag))) := by
  rw [e_133]
  unfold f_133 b_133_0 inR
  rw [xg_64_0, xV_58, u_is hT hc, bI_s, i01]
  by_cases h3 : (T c).1 = 3
  · have hl := lt_of hT hc h3 (by decide)
    rw [if_pos h3, if_pos h3, xg_64_1, eR_2, hQ.2.1, yg_3 hQ.1, ya_3 hQ.1, if_pos (mj_in_nI hi (by decide)), nI_clamp (by omega), eR_p hQ.1 (by omega), hn]
    by_cases k8 : k = 8
    · subst k8
      rw [if_pos (show nI 8 = 8 from rfl), if_pos rfl, xg_64_0, xV_58, u_ref3 hT hc (by rw [h3]; decide), bN_s]
      exact ⟨Or.inr (Or.inr rfl), _, rfl, fun _ => offR.rf⟩
    · have k8' : ¬ nI k = 8 := fun e => k8 ((nI_eq (a := k) (b := 8) (by omega) (by omega)).mp e)
      have hT' : TH T N (uI s (q + 3) (upd (s.1 (q + 3)) ci (nI (k + 1)))) := hT.off hQ.1 (offR.w (ci := ci) (fm := 0) chR_i)
      have ho : ∀ fm, offR q ci fm s (uI s (q + 3) (upd (s.1 (q + 3)) ci (nI (k + 1)))) := fun fm => offR.w chR_i
      rw [if_neg k8', if_neg k8, xg_64_1, eR_2, hQ.2.1, yg_3 hQ.1, ya_3 hQ.1, if_pos (mj_in_nI hi (by decide)), nI_clamp (by omega), eR_p hQ.1 (by omega), hn, nI_1, ys_3 hQ.1, if_pos (mj_in_nI hi (by decide)), nI_clamp (by omega), eR_p hQ.1 (by omega), wR_p hQ.1 (by omega), xg_64_0, xV_58, u_skip hT' hl, bN_s, xg_64_0, xV_58]
      by_cases h8 : (T (c + 1)).1 = 8
      · have hl1 := lt_of hT (c := c + 1) hl h8 (by decide)
        rw [if_pos h8, u_need hT' (c := c + 1) hl h8 (by decide), bN_s, xg_64_0, xV_58]
        by_cases h3' : (T (c + 2)).1 = 3
        · have hl2 := lt_of hT (c := c + 2) (by omega) h3' (by decide)
          rw [if_pos h3', u_need hT' (c := c + 1 + 1) (by omega) h3' (by decide), bN_s]
          exact ⟨by omega, by omega, hl, rfl⟩
        · rw [if_neg h3', u_need2 hT' (c := c + 1 + 1) (by omega) h3', bN_s]
          exact ⟨F2_in T _, _, rfl, ho⟩
      · rw [if_neg h8, u_need2 hT' (c := c + 1) hl h8, bN_s, xg_64_0, xV_58, u_needN hT' (F2_n0 T _), bN_s]
        exact ⟨F2_in T _, _, rfl, ho⟩
  · rw [if_neg h3, if_neg h3, xg_64_0, xV_58, u_ref2 hT hc, bN_s]
    exact ⟨F2_in T _, _, rfl, fun _ => offR.rf⟩
theorem pIns_in (f k c : Nat) : pIns T (f + 1) k c = (match inR T k c with
    | .inl e => .inl e
    | .inr c' => if (T c').1 = 44 then pIns T f (k + 1) (c' + 1) else .inr (k + 1, c')) := by
  unfold inR
  show (if (T c).1 = 3 then _ else _) = _
  by_cases h3 : (T c).1 = 3
  · rw [if_pos h3, if_pos h3]
    by_cases k8 : k = 8
    · rw [if_pos k8, if_pos k8]
    · rw [if_neg k8, if_neg k8]
      by_cases h8 : (T (c + 1)).1 = 8
      · rw [if_pos h8, if_pos h8]
        by_cases h3' : (T (c + 2)).1 = 3
        · rw [if_pos h3', if_pos h3']
        · rw [if_neg h3', if_neg h3']
      · rw [if_neg h8, if_neg h8]
  · rw [if_neg h3, if_neg h3]
/-- INS -/
def isOK (q ci : Nat) (s : mjSt3) (T : TT) (N : Nat) (u : mjU) (p o v : Int32) (ag : Nat → Int32) (r : (Nat × Nat) ⊕ (Nat × Nat)) : Prop := match r with
  | .inl e => (e.1 = 1 ∨ e.1 = 2 ∨ e.1 = 3) ∧ ∃ s', u = some (none, mjW0 (eR s' (N, nI e.1, (T e.2).2.1, o, v, ag))) ∧ ∀ fm, offR q ci fm s s'
  | .inr a => a.2 ≤ N ∧ a.1 ≤ 8 ∧ u = some (none, mjW0 (eR (uI s (q + 3) (upd (s.1 (q + 3)) ci (nI a.1))) (a.2, 0, p, o, v, ag)))
theorem x_insL (hQ : RQ q s) (hT : TH T N s) (hi : ci < 16) : ∀ (f k c n : Nat), f + k = 8 → k < 8 → f + 1 < n → c ≤ N → isOK q ci s T N (L_132_27 (mjF (d + 3)) n 64 (nI ci) (nI k) (mjW0 (eR (uI s (q + 3) (upd (s.1 (q + 3)) ci (nI (k + 1)))) (c, 0, p, o, v, ag)))) p o v ag (if (T c).1 = 44 then pIns T f (k + 1) (c + 1) else .inr (k + 1, c))
  | 0, k, c, n, hk, h5, hn, hc => by omega
  | f + 1, k, c, n, hk, h5, hn, hc => by
    obtain ⟨n, rfl⟩ : ∃ m, n = m + 1 := ⟨n - 1, by omega⟩
    have hT' : TH T N (uI s (q + 3) (upd (s.1 (q + 3)) ci (nI (k + 1)))) := hT.off hQ.1 (offR.w (ci := ci) (fm := 0) chR_i)
    have hQ' : RQ q (uI s (q + 3) (upd (s.1 (q + 3)) ci (nI (k + 1)))) := hQ.off (offR.w (ci := ci) (fm := 0) chR_i)
    have hv : (uI s (q + 3) (upd (s.1 (q + 3)) ci (nI (k + 1)))).1 (q + 3) ci = nI (k + 1) := by rw [uI_same]; exact if_pos rfl
    have ho : ∀ fm, offR q ci fm s (uI s (q + 3) (upd (s.1 (q + 3)) ci (nI (k + 1)))) := fun fm => offR.w chR_i
    rw [L132_S]
    unfold b_132_27
    rw [if_neg (show ¬ (8 : Int32) ≤ nI k from nI_ge (b := 8) (by omega) (by omega)), xg_64_0, xV_58, u_is hT' hc, bI_s, i01]
    by_cases h44 : (T c).1 = 44
    · have hl : c < N := lt_of hT hc h44 (by decide)
      rw [if_pos h44, if_pos h44, xg_64_0, xV_58, u_skip hT' hl, bN_s, xV_64, pIns_in]
      have h := x_in (d := d) (p := p) (o := o) (v := v) (ag := ag) hT' hQ' (c := c + 1) hl hi (k := k + 1) (by omega) hv
      cases hd : inR T (k + 1) (c + 1) with
      | inl e =>
        rw [hd] at h
        obtain ⟨he, s', h, o'⟩ := h
        obtain ⟨n, rfl⟩ : ∃ m, n = m + 1 := ⟨n - 1, by omega⟩
        rw [h, bN_s, n_ins27 (hT'.off hQ.1 (o' 0))]
        exact ⟨he, _, rfl, fun fm => (ho fm).tr (o' fm)⟩
      | inr c' =>
        rw [hd] at h
        obtain ⟨hc', hk', _, h⟩ := h
        rw [h, bN_s, nI_1, uI_same, upd_upd, uI_uI]
        exact x_insL hQ hT hi f (k + 1) c' n (by omega) hk' (by omega) hc'
    · rw [if_neg h44, if_neg h44]
      exact ⟨hc, by show k + 1 ≤ 8; omega, rfl⟩
/-- readIns, the cursor at where -/
theorem x_ins (hQ : RQ q s) (hT : TH T N s) (hi : ci < 16) (hc : c < N) (hz : s.1 (q + 3) ci = 0) : isOK q ci (uI s 67 (upd (s.1 67) ci (nI (c + 1)))) T N (mjF (d + 4) 132 [.ref 64, .int (nI ci)] (mjW0 (eR s (c, 0, p, o, v, ag)))) p o v ag (pIns T 9 0 (c + 1)) := by
  have hq : q = 2 ∨ q = 30 := hQ.1
  have h67 : offR q ci 0 s (uI s 67 (upd (s.1 67) ci (nI (c + 1)))) := offR.w (Or.inr (Or.inr (Or.inl ⟨by omega, rfl⟩)))
  rw [e_132]
  unfold f_132 b_132_0
  rw [xg_64_0, xV_58, u_skip hT hc, bN_s, xg_64_5, xg_64_0, xV_58, u_now hT (by omega), bI_s, xs_67, if_pos (mj_in_nI hi (by decide)), nI_clamp (by omega), eR_r (by decide), wR_r (by decide), xV_64, show mjN = 99999999 + 1 from rfl, pIns_in]
  have h := x_in (d := d) (p := p) (o := o) (v := v) (ag := ag) (hT.off hQ.1 h67) (hQ.off h67) (c := c + 1) hc hi (k := 0) (by omega) (by rw [uI_ne _ _ _ _ (by omega)]; exact hz)
  cases hd : inR T 0 (c + 1) with
  | inl e =>
    rw [hd] at h
    obtain ⟨he, s', h, o'⟩ := h
    rw [h, bN_s, n_ins27 ((hT.off hQ.1 h67).off hQ.1 (o' 0))]
    exact ⟨he, _, rfl, o'⟩
  | inr c' =>
    rw [hd] at h
    obtain ⟨hc', hk', _, h⟩ := h
    rw [h, bN_s]
    exact x_insL (hQ.off h67) (hT.off hQ.1 h67) hi 8 0 c' _ (by omega) (by omega) (by omega) hc'
theorem n_ins (hT : TH T N s) (hQ : isP q) (hf : ¬ f = 0) (hi : ci < 16) : ∃ s', mjF (d + 4) 132 [.ref 64, .int (nI ci)] (mjW0 (eR s (N, f, p, o, v, ag))) = some (none, mjW0 (eR s' (N, f, p, o, v, ag))) ∧ ∀ fm, offR q ci fm s s' := by
  have hq : q = 2 ∨ q = 30 := hQ
  have h67 : ∀ fm, offR q ci fm s (uI s 67 (upd (s.1 67) ci (nI N))) := fun fm => offR.w (Or.inr (Or.inr (Or.inl ⟨by omega, rfl⟩)))
  refine ⟨_, ?_, h67⟩
  rw [e_132]
  unfold f_132 b_132_0
  rw [xg_64_0, xV_58, u_skipN hT, bN_s, xg_64_5, xg_64_0, xV_58, u_now hT (Nat.le_refl N), bI_s, xs_67, if_pos (mj_in_nI hi (by decide)), nI_clamp (by omega), eR_r (by decide), wR_r (by decide), xV_64, show mjN = 99999999 + 1 from rfl, n_in (hT.off hQ (h67 0)) hf, bN_s, n_ins27 (hT.off hQ (h67 0))]
end MJ54
