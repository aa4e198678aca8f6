/-! ===== how CLASSES are read ===== -/
def pNames (T : TT) : Nat → Nat → Nat → (Nat × Nat) ⊕ (Nat × Nat)
  | 0, k, c => .inr (k, c)
  | f + 1, k, c => if (T c).1 = 3 then (if k = 5 then .inl (3, c) else if (T (c + 1)).1 = 44 then pNames T f (k + 1) (c + 2) else if (T (c + 1)).1 = 93 then .inr (k + 1, c + 2) else .inl (F2 T (c + 1))) else .inl (F2 T c)
def pIns (T : TT) : Nat → Nat → Nat → (Nat × Nat) ⊕ (Nat × Nat)
  | 0, k, c => .inr (k, c)
  | f + 1, k, c => if (T c).1 = 3 then (if k = 8 then .inl (3, c) else if (T (c + 1)).1 = 8 then (if (T (c + 2)).1 = 3 then (if (T (c + 3)).1 = 44 then pIns T f (k + 1) (c + 4) else .inr (k + 1, c + 3)) else .inl (F2 T (c + 2))) else .inl (F2 T (c + 1))) else .inl (F2 T c)
/-- a CLASS's head: CLASSNAME's token, NAMES, the token is and 1 (0: none), the token of the first IN, INS -/
abbrev HD : Type := Nat × Nat × Nat × Nat × Nat
def pAbove (T : TT) (c : Nat) : (Nat × Nat) ⊕ Nat := if (T c).1 = 6 then pKind T (c + 1) else .inr c
def pWhere (T : TT) (c : Nat) : (Nat × Nat) ⊕ (Nat × Nat) := if (T c).1 = 7 then pIns T 9 0 (c + 1) else .inr (0, c)
def pHead (T : TT) (n c : Nat) : (Nat × Nat) ⊕ (Nat × HD) :=
  if n = 16 then .inl (3, c) else if (T (c + 1)).1 = 2 then (if (T (c + 2)).1 = 91 then (match pNames T 6 0 (c + 3) with
    | .inl e => .inl e
    | .inr a => (match pAbove T a.2 with
      | .inl e => .inl e
      | .inr c2 => (match pWhere T c2 with
        | .inl e => .inl e
        | .inr w => if (T w.2).1 = 123 then .inr (w.2 + 1, c + 1, a.1, if (T a.2).1 = 6 then a.2 + 1 else 0, c2 + 1, w.1) else .inl (F2 T w.2))))
    else .inl (F2 T (c + 2))) else .inl (F2 T (c + 1))
/-! ===== the class reads them so ===== -/
/-- what may change while CLASS ci and MEMBERS from fm on are read -/
def chR (q ci fm h j : Nat) : Prop := (h = q ∧ j = 0) ∨ (h = q + 14 ∧ j = 0) ∨ ((h = 65 ∨ h = 66 ∨ h = 67 ∨ h = q + 1 ∨ h = q + 2 ∨ h = q + 3 ∨ h = q + 6 ∨ h = q + 7 ∨ h = q + 9 ∨ h = q + 10) ∧ j = ci) ∨ ((h = 68 ∨ h = 69 ∨ h = 70 ∨ h = q + 16 ∨ h = q + 18 ∨ h = q + 19 ∨ h = q + 20 ∨ h = q + 22) ∧ fm ≤ j)
def offR (q ci fm : Nat) (s s' : mjSt3) : Prop := (∀ h j, ¬ chR q ci fm h j → s'.1 h j = s.1 h j) ∧ (∀ h j, ¬ (h = q + 15 ∧ fm ≤ j) → s'.2.1 h j = s.2.1 h j) ∧ s'.2.2 = s.2.2
theorem offR.rf {q ci fm : Nat} {s : mjSt3} : offR q ci fm s s := ⟨fun _ _ _ => rfl, fun _ _ _ => rfl, rfl⟩
theorem offR.tr {q ci fm : Nat} {a b c : mjSt3} (h : offR q ci fm a b) (g : offR q ci fm b c) : offR q ci fm a c :=
  ⟨fun x y z => (g.1 x y z).trans (h.1 x y z), fun x y z => (g.2.1 x y z).trans (h.2.1 x y z), g.2.2.trans h.2.2⟩
theorem offR.w {q ci fm h j : Nat} {s : mjSt3} {v : Int32} (hc : chR q ci fm h j) : offR q ci fm s (uI s h (upd (s.1 h) j v)) := by
  refine ⟨fun h' j' n => ?_, fun _ _ _ => rfl, rfl⟩
  by_cases e : h' = h
  · subst e
    rw [uI_same]
    exact if_neg (fun e => n (by rw [e]; exact hc))
  · rw [uI_ne _ _ _ _ e]
theorem offR.wl {q ci fm j : Nat} {s : mjSt3} {v : Int64} (hc : fm ≤ j) : offR q ci fm s (uL s (q + 15) (vp_updL (s.2.1 (q + 15)) j v)) := by
  refine ⟨fun _ _ _ => rfl, fun h' j' n => ?_, rfl⟩
  by_cases e : h' = q + 15
  · subst e
    rw [uL_same]
    exact if_neg (fun e => n ⟨rfl, by rw [e]; exact hc⟩)
  · rw [uL_ne _ _ _ _ e]
theorem offR.mono {q ci fm fm' : Nat} {s s' : mjSt3} (h : offR q ci fm' s s') (hf : fm ≤ fm') : offR q ci fm s s' := by
  refine ⟨fun x y n => h.1 x y (fun c => n ?_), fun x y n => h.2.1 x y (fun c => n ⟨c.1, by omega⟩), h.2.2⟩
  rcases c with c | c | c | c
  · exact Or.inl c
  · exact Or.inr (Or.inl c)
  · exact Or.inr (Or.inr (Or.inl c))
  · exact Or.inr (Or.inr (Or.inr ⟨c.1, by omega⟩))
theorem isP.lt {q : Nat} (h : isP q) : q = 2 ∨ q = 30 := h
theorem TH.off {T : TT} {N q ci fm : Nat} {s s' : mjSt3} (h : TH T N s) (hq : isP q) (o : offR q ci fm s s') : TH T N s' := by
  obtain ⟨a, b, c, d⟩ := h
  have hq' : q = 2 ∨ q = 30 := hq
  have n58 : ∀ j, ¬ chR q ci fm 58 j := fun j => by unfold chR; omega
  have n60 : ∀ j, ¬ chR q ci fm 60 j := fun j => by unfold chR; omega
  have n61 : ∀ j, ¬ chR q ci fm 61 j := fun j => by unfold chR; omega
  exact ⟨(o.1 58 5 (n58 5)).trans a, b, c, fun k hk => ⟨(o.1 60 k (n60 k)).trans (d k hk).1, (o.1 61 k (n61 k)).trans (d k hk).2⟩⟩
section MJ53
variable {s : mjSt3} {x : RS} {q : Nat}
theorem eR_p (hq : isP q) {k : Nat} (hk : k ≤ 27) : (eR s x).1 (q + k) = s.1 (q + k) := by
  have hq' : q = 2 ∨ q = 30 := hq
  exact eR_q (by omega) (by omega) (by omega)
theorem eR_p0 (hq : isP q) : (eR s x).1 q = s.1 q := eR_p (k := 0) hq (by omega)
theorem wR_p (hq : isP q) {k : Nat} (hk : k ≤ 27) (f : Nat → Int32) : uI (eR s x) (q + k) f = eR (uI s (q + k) f) x := by
  have hq' : q = 2 ∨ q = 30 := hq
  exact wR_q (by omega) (by omega) (by omega) f
theorem wR_p0 (hq : isP q) (f : Nat → Int32) : uI (eR s x) q f = eR (uI s q f) x := wR_p (k := 0) hq (by omega) f
theorem wR_r {h : Nat} (hh : 65 ≤ h) (f : Nat → Int32) : uI (eR s x) h f = eR (uI s h f) x := wR_q (by omega) (by omega) (by omega) f
theorem eR_r {h : Nat} (hh : 65 ≤ h) : (eR s x).1 h = s.1 h := eR_q (by omega) (by omega) (by omega)
end MJ53
/-- the reader's program is q -/
def RQ (q : Nat) (s : mjSt3) : Prop := isP q ∧ s.2.2 64 1 = q ∧ s.2.2 64 2 = q + 14
theorem RQ.off {q ci fm : Nat} {s s' : mjSt3} (h : RQ q s) (o : offR q ci fm s s') : RQ q s' := ⟨h.1, by rw [o.2.2]; exact h.2.1, by rw [o.2.2]; exact h.2.2⟩
/-- bad, whatever else, but for what may not change -/
def hbOK (q ci fm : Nat) (s : mjSt3) (T : TT) (N : Nat) (u : mjU) (e : Nat × Nat) : Prop := (e.1 = 1 ∨ e.1 = 2 ∨ e.1 = 3) ∧ ∃ (s' : mjSt3) (o' v' : Int32) (ag' : Nat → Int32), u = some (none, mjW0 (eR s' (N, nI e.1, (T e.2).2.1, o', v', ag'))) ∧ offR q ci fm s s'
section MJ53b
variable {T : TT} {d N c q ci fm : Nat} {s : mjSt3} {f p o v : Int32} {ag : Nat → Int32}
theorem n_name (hT : TH T N s) (hf : ¬ f = 0) (i : Int32) : mjF (d + 2) 129 [.ref 64, .int i] (mjW0 (eR s (N, f, p, o, v, ag))) = some (none, mjW0 (eR s (N, f, p, o, v, ag))) := by
  rw [e_129]
  unfold f_129 b_129_0
  rw [xg_64_0, xV_58, u_is hT (Nat.le_refl N), bI_s, i01, if_neg (kN hT (by decide)), xg_64_0, xV_58, u_refN hT hf, bN_s]
theorem L128_S (R : mjR) (n : Nat) (a : Nat) (b c : Int32) (hp : mjH) : L_128_16 R (n + 1) a b c hp = b_128_16 R (L_128_16 R n) a b c hp := rfl
theorem n_names16 (hT : TH T N s) (hf : ¬ f = 0) (n : Nat) (i k : Int32) : L_128_16 (mjF (d + 2)) (n + 1) 64 i k (mjW0 (eR s (N, f, p, o, v, ag))) = some (none, mjW0 (eR s (N, f, p, o, v, ag))) := by
  rw [L128_S]
  unfold b_128_16 b_128_51
  simp only [xg_64_0, xV_58, u_is hT (Nat.le_refl N), bI_s, i01, if_neg (kN hT (k := 44) (by decide)), u_needN hT hf, bN_s, if_true, ite_self]
theorem n_names (hT : TH T N s) (hf : ¬ f = 0) (i : Int32) : mjF (d + 3) 128 [.ref 64, .int i] (mjW0 (eR s (N, f, p, o, v, ag))) = some (none, mjW0 (eR s (N, f, p, o, v, ag))) := by
  rw [e_128]
  unfold f_128 b_128_0
  rw [xg_64_0, xV_58, u_needN hT hf, bN_s, xV_64, n_name hT hf, bN_s, show mjN = 99999999 + 1 from rfl, n_names16 hT hf]
theorem x_name1 (hT : TH T N s) (hQ : RQ q s) (hc : c ≤ N) (hi : ci < 16) {k : Nat} (hk : k < 5) (h3 : (T c).1 = 3) (hn : s.1 (q + 1) ci = nI k) : mjF (d + 2) 129 [.ref 64, .int (nI ci)] (mjW0 (eR s (c, 0, p, o, v, ag))) = some (none, mjW0 (eR (uI s (q + 1) (upd (s.1 (q + 1)) ci (nI (k + 1)))) (c + 1, 0, p, o, v, ag))) := by
  have hl := lt_of hT hc h3 (by decide)
  have k5 : ¬ nI k = 5 := fun e => by have := (nI_eq (a := k) (b := 5) (by omega) (by omega)).mp e; omega
  rw [e_129]
  unfold f_129 b_129_0
  rw [xg_64_0, xV_58, u_is hT hc, bI_s, i01, if_pos h3, xg_64_1, eR_2, hQ.2.1, yg_1 hQ.1, ya_1 hQ.1, if_pos (mj_in_nI hi (by decide)), nI_clamp (by omega), eR_p hQ.1 (by omega), hn, if_neg k5, xg_64_1, eR_2, hQ.2.1, yg_1 hQ.1, ya_1 hQ.1, if_pos (mj_in_nI hi (by decide)), nI_clamp (by omega), eR_p hQ.1 (by omega), hn, nI_1, ys_1 hQ.1, if_pos (mj_in_nI hi (by decide)), nI_clamp (by omega), eR_p hQ.1 (by omega), wR_p hQ.1 (by omega), xg_64_0, xV_58]
  have hT' : TH T N (uI s (q + 1) (upd (s.1 (q + 1)) ci (nI (k + 1)))) := hT.off hQ.1 (offR.w (ci := ci) (fm := 0) (Or.inr (Or.inr (Or.inl ⟨by omega, rfl⟩))))
  rw [u_skip hT' hl, bN_s]
theorem x_name3 (hT : TH T N s) (hQ : RQ q s) (hc : c ≤ N) (hi : ci < 16) (h3 : (T c).1 = 3) (hn : s.1 (q + 1) ci = 5) : mjF (d + 2) 129 [.ref 64, .int (nI ci)] (mjW0 (eR s (c, 0, p, o, v, ag))) = some (none, mjW0 (eR s (N, nI 3, (T c).2.1, o, v, ag))) := by
  rw [e_129]
  unfold f_129 b_129_0
  rw [xg_64_0, xV_58, u_is hT hc, bI_s, i01, if_pos h3, xg_64_1, eR_2, hQ.2.1, yg_1 hQ.1, ya_1 hQ.1, if_pos (mj_in_nI hi (by decide)), nI_clamp (by omega), eR_p hQ.1 (by omega), hn, if_pos rfl, xg_64_0, xV_58, u_ref3 hT hc (by rw [h3]; decide), bN_s]
theorem x_name2 (hT : TH T N s) (hc : c ≤ N) (h3 : ¬ (T c).1 = 3) (i : Int32) : mjF (d + 2) 129 [.ref 64, .int i] (mjW0 (eR s (c, 0, p, o, v, ag))) = some (none, mjW0 (eR s (N, nI (F2 T c).1, (T (F2 T c).2).2.1, o, v, ag))) := by
  rw [e_129]
  unfold f_129 b_129_0
  rw [xg_64_0, xV_58, u_is hT hc, bI_s, i01, if_neg h3, xg_64_0, xV_58, u_ref2 hT hc, bN_s]
/-- NAMES -/
def nmOK (q ci : Nat) (s : mjSt3) (T : TT) (N : Nat) (u : mjU) (p o v : Int32) (ag : Nat → Int32) (r : (Nat × Nat) ⊕ (Nat × Nat)) : Prop := match r with
  | .inl e => (e.1 = 1 ∨ e.1 = 2 ∨ e.1 = 3) ∧ ∃ s', u = some (none, mjW0 (eR s' (N, nI e.1, (T e.2).2.1, o, v, ag))) ∧ ∀ fm, offR q ci fm s s'
  | .inr a => a.2 ≤ N ∧ a.1 ≤ 5 ∧ u = some (none, mjW0 (eR (uI s (q + 1) (upd (s.1 (q + 1)) ci (nI a.1))) (a.2, 0, p, o, v, ag)))
theorem chR_n {q ci fm : Nat} : chR q ci fm (q + 1) ci := Or.inr (Or.inr (Or.inl ⟨by omega, rfl⟩))
theorem x_namesL (hQ : RQ q s) (hT : TH T N s) (hi : ci < 16) : ∀ (f k c n : Nat), f + k = 5 → k < 5 → f + 1 < n → c < N → nmOK q ci s T N (L_128_16 (mjF (d + 2)) n 64 (nI ci) (nI k) (mjW0 (eR (uI s (q + 1) (upd (s.1 (q + 1)) ci (nI (k + 1)))) (c + 1, 0, p, o, v, ag)))) p o v ag (if (T (c + 1)).1 = 44 then pNames T f (k + 1) (c + 2) else if (T (c + 1)).1 = 93 then .inr (k + 1, c + 2) else .inl (F2 T (c + 1)))
  | 0, k, c, n, hk, h5, hn, hc => by omega
  | f + 1, k, c, n, hk, h5, hn, hc => by
    obtain ⟨n, rfl⟩ : ∃ m, n = m + 1 := ⟨n - 1, by omega⟩
    have hT' : TH T N (uI s (q + 1) (upd (s.1 (q + 1)) ci (nI (k + 1)))) := hT.off hQ.1 (offR.w (ci := ci) (fm := 0) chR_n)
    have hQ' : RQ q (uI s (q + 1) (upd (s.1 (q + 1)) ci (nI (k + 1)))) := hQ.off (offR.w (ci := ci) (fm := 0) chR_n)
    have hv : (uI s (q + 1) (upd (s.1 (q + 1)) ci (nI (k + 1)))).1 (q + 1) ci = nI (k + 1) := by rw [uI_same]; exact if_pos rfl
    have ho : ∀ fm, offR q ci fm s (uI s (q + 1) (upd (s.1 (q + 1)) ci (nI (k + 1)))) := fun fm => offR.w chR_n
    rw [L128_S]
    unfold b_128_16
    rw [if_neg (show ¬ (5 : Int32) ≤ nI k from nI_ge (b := 5) (by omega) (by omega)), xg_64_0, xV_58, u_is hT' (c := c + 1) (by omega), bI_s, i01]
    by_cases h44 : (T (c + 1)).1 = 44
    · rw [if_pos h44, if_pos h44, xg_64_0, xV_58]
      have hl : c + 1 < N := lt_of hT (by omega) h44 (by decide)
      rw [u_skip hT' hl, bN_s, xV_64]
      unfold pNames
      by_cases h3 : (T (c + 2)).1 = 3
      · rw [if_pos h3]
        by_cases k5 : k + 1 = 5
        · obtain ⟨n, rfl⟩ : ∃ m, n = m + 1 := ⟨n - 1, by omega⟩
          rw [if_pos k5, x_name3 hT' hQ' (c := c + 1 + 1) (by omega) hi h3 (by rw [hv, k5]; rfl), bN_s, n_names16 hT' (by decide)]
          exact ⟨Or.inr (Or.inr rfl), _, rfl, ho⟩
        · have hl2 : c + 2 < N := lt_of hT (by omega) h3 (by decide)
          rw [if_neg k5, x_name1 hT' hQ' (c := c + 1 + 1) (by omega) hi (k := k + 1) (by omega) h3 hv, bN_s, nI_1, uI_same, upd_upd, uI_uI]
          exact x_namesL hQ hT hi f (k + 1) (c + 2) n (by omega) (by omega) (by omega) hl2
      · obtain ⟨n, rfl⟩ : ∃ m, n = m + 1 := ⟨n - 1, by omega⟩
        rw [if_neg h3, x_name2 hT' (c := c + 1 + 1) (by omega) h3, bN_s, n_names16 hT' (F2_n0 T _)]
        exact ⟨F2_in T _, _, rfl, ho⟩
    · rw [if_neg h44, if_neg h44]
      unfold b_128_51
      rw [xg_64_0, xV_58]
      by_cases h93 : (T (c + 1)).1 = 93
      · have hl : c + 1 < N := lt_of hT (by omega) h93 (by decide)
        rw [if_pos h93, u_need hT' (by omega) h93 (by decide), bN_s]
        exact ⟨by show c + 2 ≤ N; omega, by show k + 1 ≤ 5; omega, rfl⟩
      · rw [if_neg h93, u_need2 hT' (by omega) h93, bN_s]
        exact ⟨F2_in T _, _, rfl, ho⟩
/-- readNames, from [ on -/
theorem x_names (hQ : RQ q s) (hT : TH T N s) (hi : ci < 16) (hc : c ≤ N) (hz : s.1 (q + 1) ci = 0) : nmOK q ci s T N (mjF (d + 3) 128 [.ref 64, .int (nI ci)] (mjW0 (eR s (c, 0, p, o, v, ag)))) p o v ag (if (T c).1 = 91 then pNames T 6 0 (c + 1) else .inl (F2 T c)) := by
  rw [e_128]
  unfold f_128 b_128_0
  rw [xg_64_0, xV_58, show mjN = 99999999 + 1 from rfl]
  by_cases h91 : (T c).1 = 91
  · have hl := lt_of hT hc h91 (by decide)
    rw [if_pos h91, u_need hT hc h91 (by decide), bN_s, xV_64]
    unfold pNames
    by_cases h3 : (T (c + 1)).1 = 3
    · have hl2 := lt_of hT (c := c + 1) hl h3 (by decide)
      rw [if_pos h3, if_neg (by decide), x_name1 hT hQ (c := c + 1) hl hi (k := 0) (by omega) h3 hz, bN_s]
      exact x_namesL hQ hT hi 5 0 (c + 1) _ (by omega) (by omega) (by omega) hl2
    · rw [if_neg h3, x_name2 hT (c := c + 1) hl h3, bN_s, n_names16 hT (F2_n0 T _)]
      exact ⟨F2_in T _, _, rfl, fun _ => offR.rf⟩
  · rw [if_neg h91, u_need2 hT hc h91, bN_s, xV_64, n_name hT (F2_n0 T _), bN_s, n_names16 hT (F2_n0 T _)]
    exact ⟨F2_in T _, _, rfl, fun _ => offR.rf⟩
end MJ53b
