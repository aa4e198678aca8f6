section
/-! ===== how CLASSES are read ===== -/
def pNames (T : TT) : Nat → Nat → Nat → (Nat × Nat) ⊕ (Nat × Nat)
  | 0, k, c => .inr (k, c)
  | f + 1, k, c => if (T c).1 = 3 then (if k = 5 then .inl (3, c) else if (T (c + 1)).1 = 44 then pNames T f (k + 1) (c + 2) else if (T (c + 1)).1 = 93 then .inr (k + 1, c + 2) else .inl (F2 T (c + 1))) else .inl (F2 T c)
def pIns (T : TT) : Nat → Nat → Nat → (Nat × Nat) ⊕ (Nat × Nat)
  | 0, k, c => .inr (k, c)
  | f + 1, k, c => if (T c).1 = 3 then (if k = 8 then .inl (3, c) else if (T (c + 1)).1 = 8 then (if (T (c + 2)).1 = 3 then (if (T (c + 3)).1 = 44 then pIns T f (k + 1) (c + 4) else .inr (k + 1, c + 3)) else .inl (F2 T (c + 2))) else .inl (F2 T (c + 1))) else .inl (F2 T c)
/-- a CLASS's head: CLASSNAME's token, NAMES, the token is and 1 (0: none), the token of the first IN, INS -/
abbrev HD : Type := Nat × Nat × Nat × Nat × Nat
def pAbove (T : TT) (c : Nat) : (Nat × Nat) ⊕ Nat := if (T c).1 = 6 then pKind T (c + 1) else .inr c
def pWhere (T : TT) (c : Nat) : (Nat × Nat) ⊕ (Nat × Nat) := if (T c).1 = 7 then pIns T 9 0 (c + 1) else .inr (0, c)
def pHead (T : TT) (n c : Nat) : (Nat × Nat) ⊕ (Nat × HD) :=
  if n = 16 then .inl (3, c) else if (T (c + 1)).1 = 2 then (if (T (c + 2)).1 = 91 then (match pNames T 6 0 (c + 3) with
    | .inl e => .inl e
    | .inr a => (match pAbove T a.2 with
      | .inl e => .inl e
      | .inr c2 => (match pWhere T c2 with
        | .inl e => .inl e
        | .inr w => if (T w.2).1 = 123 then .inr (w.2 + 1, c + 1, a.1, if (T a.2).1 = 6 then a.2 + 1 else 0, c2 + 1, w.1) else .inl (F2 T w.2))))
    else .inl (F2 T (c + 2))) else .inl (F2 T (c + 1))
/-! ===== the class reads them so ===== -/
/-- what may change while CLASS ci and MEMBERS from fm on are read -/
def chR (q ci fm h j : Nat) : Prop := (h = q ∧ j = 0) ∨ (h = q + 14 ∧ j = 0) ∨ ((h = 65 ∨ h = 66 ∨ h = 67 ∨ h = q + 1 ∨ h = q + 2 ∨ h = q + 3 ∨ h = q + 6 ∨ h = q + 7 ∨ h = q + 9 ∨ h = q + 10) ∧ j = ci) ∨ ((h = 68 ∨ h = 69 ∨ h = 70 ∨ h = q + 16 ∨ h = q + 18 ∨ h = q + 19 ∨ h = q + 20 ∨ h = q + 22) ∧ fm ≤ j)
def offR (q ci fm : Nat) (s s' : mjSt3) : Prop := (∀ h j, ¬ chR q ci fm h j → s'.1 h j = s.1 h j) ∧ (∀ h j, ¬ (h = q + 15 ∧ fm ≤ j) → s'.2.1 h j = s.2.1 h j) ∧ s'.2.2 = s.2.2
theorem offR.rf {q ci fm : Nat} {s : mjSt3} : offR q ci fm s s := ⟨fun _ _ _ => rfl, fun _ _ _ => rfl, rfl⟩
theorem offR.tr {q ci fm : Nat} {a b c : mjSt3} (h : offR q ci fm a b) (g : offR q ci fm b c) : offR q ci fm a c :=
  ⟨fun x y z => (g.1 x y z).trans (h.1 x y z), fun x y z => (g.2.1 x y z).trans (h.2.1 x y z), g.2.2.trans h.2.2⟩
theorem offR.w {q ci fm h j : Nat} {s : mjSt3} {v : Int32} (hc : chR q ci fm h j) : offR q ci fm s (uI s h (upd (s.1 h) j v)) := by
  refine ⟨fun h' j' n => ?_, fun _ _ _ => rfl, rfl⟩
  by_cases e : h' = h
  · subst e
    rw [uI_same]
    exact if_neg (fun e => n (by rw [e]; exact hc))
  · rw [uI_ne _ _ _ _ e]
theorem offR.wl {q ci fm j : Nat} {s : mjSt3} {v : Int64} (hc : fm ≤ j) : offR q ci fm s (uL s (q + 15) (vp_updL (s.2.1 (q + 15)) j v)) := by
  refine ⟨fun _ _ _ => rfl, fun h' j' n => ?_, rfl⟩
  by_cases e : h' = q + 15
  · subst e
    rw [uL_same]
    exact if_neg (fun e => n ⟨rfl, by rw [e]; exact hc⟩)
  · rw [uL_ne _ _ _ _ e]
theorem offR.mono {q ci fm fm' : Nat} {s s' : mjSt3} (h : offR q ci fm' s s') (hf : fm ≤ fm') : offR q ci fm s s' := by
  refine ⟨fun x y n => h.1 x y (fun c => n ?_), fun x y n => h.2.1 x y (fun c => n ⟨c.1, by omega⟩), h.2.2⟩
  rcases c with c | c | c | c
  · exact Or.inl c
  · exact Or.inr (Or.inl c)
  · exact Or.inr (Or.inr (Or.inl c))
  · exact Or.inr (Or.inr (Or.inr ⟨c.1, by omega⟩))
theorem isP.lt {q : Nat} (h : isP q) : q = 2 ∨ q = 30 := h
theorem TH.off {T : TT} {N q ci fm : Nat} {s s' : mjSt3} (h : TH T N s) (hq : isP q) (o : offR q ci fm s s') : TH T N s' := by
  obtain ⟨a, b, c, d⟩ := h
  have hq' : q = 2 ∨ q = 30 := hq
  have n58 : ∀ j, ¬ chR q ci fm 58 j := fun j => by unfold chR; omega
  have n60 : ∀ j, ¬ chR q ci fm 60 j := fun j => by unfold chR; omega
  have n61 : ∀ j, ¬ chR q ci fm 61 j := fun j => by unfold chR; omega
  exact ⟨(o.1 58 5 (n58 5)).trans a, b, c, fun k hk => ⟨(o.1 60 k (n60 k)).trans (d k hk).1, (o.1 61 k (n61 k)).trans (d k hk).2⟩⟩
section MJ53
variable {s : mjSt3} {x : RS} {q : Nat}
theorem eR_p (hq : isP q) {k : Nat} (hk : k ≤ 27) : (eR s x).1 (q + k) = s.1 (q + k) := by
  have hq' : q = 2 ∨ q = 30 := hq
  exact eR_q (by omega) (by omega) (by omega)
theorem eR_p0 (hq : isP q) : (eR s x).1 q = s.1 q := eR_p (k := 0) hq (by omega)
theorem wR_p (hq : isP q) {k : Nat} (hk : k ≤ 27) (f : Nat → Int32) : uI (eR s x) (q + k) f = eR (uI s (q + k) f) x := by
  have hq' : q = 2 ∨ q = 30 := hq
  exact wR_q (by omega) (by omega) (by omega) f
theorem wR_p0 (hq : isP q) (f : Nat → Int32) : uI (eR s x) q f = eR (uI s q f) x := wR_p (k := 0) hq (by omega) f
theorem wR_r {h : Nat} (hh : 65 ≤ h) (f : Nat → Int32) : uI (eR s x) h f = eR (uI s h f) x := wR_q (by omega) (by omega) (by omega) f
theorem eR_r {h : Nat} (hh : 65 ≤ h) : (eR s x).1 h = s.1 h := eR_q (by omega) (by omega) (by omega)
end MJ53
/-- the reader's program is q -/
def RQ (q : Nat) (s : mjSt3) : Prop := isP q ∧ s.2.2 64 1 = q ∧ s.2.2 64 2 = q + 14
theorem RQ.off {q ci fm : Nat} {s s' : mjSt3} (h : RQ q s) (o : offR q ci fm s s') : RQ q s' := ⟨h.1, by rw [o.2.2]; exact h.2.1, by rw [o.2.2]; exact h.2.2⟩
/-- bad, whatever else, but for what may not change -/
def hbOK (q ci fm : Nat) (s : mjSt3) (T : TT) (N : Nat) (u : mjU) (e : Nat × Nat) : Prop := (e.1 = 1 ∨ e.1 = 2 ∨ e.1 = 3) ∧ ∃ (s' : mjSt3) (o' v' : Int32) (ag' : Nat → Int32), u = some (none, mjW0 (eR s' (N, nI e.1, (T e.2).2.1, o', v', ag'))) ∧ offR q ci fm s s'
section MJ53b
variable {T : TT} {d N c q ci fm : Nat} {s : mjSt3} {f p o v : Int32} {ag : Nat → Int32}
theorem n_name (hT : TH T N s) (hf : ¬ f = 0) (i : Int32) : mjF (d + 2) 129 [.ref 64, .int i] (mjW0 (eR s (N, f, p, o, v, ag))) = some (none, mjW0 (eR s (N, f, p, o, v, ag))) := by
  rw [e_129]
  unfold f_129 b_129_0
  rw [xg_64_0, xV_58, u_is hT (Nat.le_refl N), bI_s, i01, if_neg (kN hT (by decide)), xg_64_0, xV_58, u_refN hT hf, bN_s]
theorem L128_S (R : mjR) (n : Nat) (a : Nat) (b c : Int32) (hp : mjH) : L_128_16 R (n + 1) a b c hp = b_128_16 R (L_128_16 R n) a b c hp := rfl
theorem n_names16 (hT : TH T N s) (hf : ¬ f = 0) (n : Nat) (i k : Int32) : L_128_16 (mjF (d + 2)) (n + 1) 64 i k (mjW0 (eR s (N, f, p, o, v, ag))) = some (none, mjW0 (eR s (N, f, p, o, v, ag))) := by
  rw [L128_S]
  unfold b_128_16 b_128_51
  simp only [xg_64_0, xV_58, u_is hT (Nat.le_refl N), bI_s, i01, if_neg (kN hT (k := 44) (by decide)), u_needN hT hf, bN_s, if_true, ite_self]
theorem n_names (hT : TH T N s) (hf : ¬ f = 0) (i : Int32) : mjF (d + 3) 128 [.ref 64, .int i] (mjW0 (eR s (N, f, p, o, v, ag))) = some (none, mjW0 (eR s (N, f, p, o, v, ag))) := by
  rw [e_128]
  unfold f_128 b_128_0
  rw [xg_64_0, xV_58, u_needN hT hf, bN_s, xV_64, n_name hT hf, bN_s, show mjN = 99999999 + 1 from rfl, n_names16 hT hf]
theorem x_name1 (hT : TH T N s) (hQ : RQ q s) (hc : c ≤ N) (hi : ci < 16) {k : Nat} (hk : k < 5) (h3 : (T c).1 = 3) (hn : s.1 (q + 1) ci = nI k) : mjF (d + 2) 129 [.ref 64, .int (nI ci)] (mjW0 (eR s (c, 0, p, o, v, ag))) = some (none, mjW0 (eR (uI s (q + 1) (upd (s.1 (q + 1)) ci (nI (k + 1)))) (c + 1, 0, p, o, v, ag))) := by
  have hl := lt_of hT hc h3 (by decide)
  have k5 : ¬ nI k = 5 := fun e => by have := (nI_eq (a := k) (b := 5) (by omega) (by omega)).mp e; omega
  rw [e_129]
  unfold f_129 b_129_0
  rw [xg_64_0, xV_58, u_is hT hc, bI_s, i01, if_pos h3, xg_64_1, eR_2, hQ.2.1, yg_1 hQ.1, ya_1 hQ.1, if_pos (mj_in_nI hi (by decide)), nI_clamp (by omega), eR_p hQ.1 (by omega), hn, if_neg k5, xg_64_1, eR_2, hQ.2.1, yg_1 hQ.1, ya_1 hQ.1, if_pos (mj_in_nI hi (by decide)), nI_clamp (by omega), eR_p hQ.1 (by omega), hn, nI_1, ys_1 hQ.1, if_pos (mj_in_nI hi (by decide)), nI_clamp (by omega), eR_p hQ.1 (by omega), wR_p hQ.1 (by omega), xg_64_0, xV_58]
  have hT' : TH T N (uI s (q + 1) (upd (s.1 (q + 1)) ci (nI (k + 1)))) := hT.off hQ.1 (offR.w (ci := ci) (fm := 0) (Or.inr (Or.inr (Or.inl ⟨by omega, rfl⟩))))
  rw [u_skip hT' hl, bN_s]
theorem x_name3 (hT : TH T N s) (hQ : RQ q s) (hc : c ≤ N) (hi : ci < 16) (h3 : (T c).1 = 3) (hn : s.1 (q + 1) ci = 5) : mjF (d + 2) 129 [.ref 64, .int (nI ci)] (mjW0 (eR s (c, 0, p, o, v, ag))) = some (none, mjW0 (eR s (N, nI 3, (T c).2.1, o, v, ag))) := by
  rw [e_129]
  unfold f_129 b_129_0
  rw [xg_64_0, xV_58, u_is hT hc, bI_s, i01, if_pos h3, xg_64_1, eR_2, hQ.2.1, yg_1 hQ.1, ya_1 hQ.1, if_pos (mj_in_nI hi (by decide)), nI_clamp (by omega), eR_p hQ.1 (by omega), hn, if_pos rfl, xg_64_0, xV_58, u_ref3 hT hc (by rw [h3]; decide), bN_s]
theorem x_name2 (hT : TH T N s) (hc : c ≤ N) (h3 : ¬ (T c).1 = 3) (i : Int32) : mjF (d + 2) 129 [.ref 64, .int i] (mjW0 (eR s (c, 0, p, o, v, ag))) = some (none, mjW0 (eR s (N, nI (F2 T c).1, (T (F2 T c).2).2.1, o, v, ag))) := by
  rw [e_129]
  unfold f_129 b_129_0
  rw [xg_64_0, xV_58, u_is hT hc, bI_s, i01, if_neg h3, xg_64_0, xV_58, u_ref2 hT hc, bN_s]
/-- NAMES -/
def nmOK (q ci : Nat) (s : mjSt3) (T : TT) (N : Nat) (u : mjU) (p o v : Int32) (ag : Nat → Int32) (r : (Nat × Nat) ⊕ (Nat × Nat)) : Prop := match r with
  | .inl e => (e.1 = 1 ∨ e.1 = 2 ∨ e.1 = 3) ∧ ∃ s', u = some (none, mjW0 (eR s' (N, nI e.1, (T e.2).2.1, o, v, ag))) ∧ ∀ fm, offR q ci fm s s'
  | .inr a => a.2 ≤ N ∧ a.1 ≤ 5 ∧ u = some (none, mjW0 (eR (uI s (q + 1) (upd (s.1 (q + 1)) ci (nI a.1))) (a.2, 0, p, o, v, ag)))
theorem chR_n {q ci fm : Nat} : chR q ci fm (q + 1) ci := Or.inr (Or.inr (Or.inl ⟨by omega, rfl⟩))
theorem x_namesL (hQ : RQ q s) (hT : TH T N s) (hi : ci < 16) : ∀ (f k c n : Nat), f + k = 5 → k < 5 → f + 1 < n → c < N → nmOK q ci s T N (L_128_16 (mjF (d + 2)) n 64 (nI ci) (nI k) (mjW0 (eR (uI s (q + 1) (upd (s.1 (q + 1)) ci (nI (k + 1)))) (c + 1, 0, p, o, v, ag)))) p o v ag (if (T (c + 1)).1 = 44 then pNames T f (k + 1) (c + 2) else if (T (c + 1)).1 = 93 then .inr (k + 1, c + 2) else .inl (F2 T (c + 1)))
  | 0, k, c, n, hk, h5, hn, hc => by omega
  | f + 1, k, c, n, hk, h5, hn, hc => by
    obtain ⟨n, rfl⟩ : ∃ m, n = m + 1 := ⟨n - 1, by omega⟩
    have hT' : TH T N (uI s (q + 1) (upd (s.1 (q + 1)) ci (nI (k + 1)))) := hT.off hQ.1 (offR.w (ci := ci) (fm := 0) chR_n)
    have hQ' : RQ q (uI s (q + 1) (upd (s.1 (q + 1)) ci (nI (k + 1)))) := hQ.off (offR.w (ci := ci) (fm := 0) chR_n)
    have hv : (uI s (q + 1) (upd (s.1 (q + 1)) ci (nI (k + 1)))).1 (q + 1) ci = nI (k + 1) := by rw [uI_same]; exact if_pos rfl
    have ho : ∀ fm, offR q ci fm s (uI s (q + 1) (upd (s.1 (q + 1)) ci (nI (k + 1)))) := fun fm => offR.w chR_n
    rw [L128_S]
    unfold b_128_16
    rw [if_neg (show ¬ (5 : Int32) ≤ nI k from nI_ge (b := 5) (by omega) (by omega)), xg_64_0, xV_58, u_is hT' (c := c + 1) (by omega), bI_s, i01]
    by_cases h44 : (T (c + 1)).1 = 44
    · rw [if_pos h44, if_pos h44, xg_64_0, xV_58]
      have hl : c + 1 < N := lt_of hT (by omega) h44 (by decide)
      rw [u_skip hT' hl, bN_s, xV_64]
      unfold pNames
      by_cases h3 : (T (c + 2)).1 = 3
      · rw [if_pos h3]
        by_cases k5 : k + 1 = 5
        · obtain ⟨n, rfl⟩ : ∃ m, n = m + 1 := ⟨n - 1, by omega⟩
          rw [if_pos k5, x_name3 hT' hQ' (c := c + 1 + 1) (by omega) hi h3 (by rw [hv, k5]; rfl), bN_s, n_names16 hT' (by decide)]
          exact ⟨Or.inr (Or.inr rfl), _, rfl, ho⟩
        · have hl2 : c + 2 < N := lt_of hT (by omega) h3 (by decide)
          rw [if_neg k5, x_name1 hT' hQ' (c := c + 1 + 1) (by omega) hi (k := k + 1) (by omega) h3 hv, bN_s, nI_1, uI_same, upd_upd, uI_uI]
          exact x_namesL hQ hT hi f (k + 1) (c + 2) n (by omega) (by omega) (by omega) hl2
      · obtain ⟨n, rfl⟩ : ∃ m, n = m + 1 := ⟨n - 1, by omega⟩
        rw [if_neg h3, x_name2 hT' (c := c + 1 + 1) (by omega) h3, bN_s, n_names16 hT' (F2_n0 T _)]
        exact ⟨F2_in T _, _, rfl, ho⟩
    · rw [if_neg h44, if_neg h44]
      unfold b_128_51
      rw [xg_64_0, xV_58]
      by_cases h93 : (T (c + 1)).1 = 93
      · have hl : c + 1 < N := lt_of hT (by omega) h93 (by decide)
        rw [if_pos h93, u_need hT' (by omega) h93 (by decide), bN_s]
        exact ⟨by show c + 2 ≤ N; omega, by show k + 1 ≤ 5; omega, rfl⟩
      · rw [if_neg h93, u_need2 hT' (by omega) h93, bN_s]
        exact ⟨F2_in T _, _, rfl, ho⟩
/-- readNames, from [ on -/
theorem x_names (hQ : RQ q s) (hT : TH T N s) (hi : ci < 16) (hc : c ≤ N) (hz : s.1 (q + 1) ci = 0) : nmOK q ci s T N (mjF (d + 3) 128 [.ref 64, .int (nI ci)] (mjW0 (eR s (c, 0, p, o, v, ag)))) p o v ag (if (T c).1 = 91 then pNames T 6 0 (c + 1) else .inl (F2 T c)) := by
  rw [e_128]
  unfold f_128 b_128_0
  rw [xg_64_0, xV_58, show mjN = 99999999 + 1 from rfl]
  by_cases h91 : (T c).1 = 91
  · have hl := lt_of hT hc h91 (by decide)
    rw [if_pos h91, u_need hT hc h91 (by decide), bN_s, xV_64]
    unfold pNames
    by_cases h3 : (T (c + 1)).1 = 3
    · have hl2 := lt_of hT (c := c + 1) hl h3 (by decide)
      rw [if_pos h3, if_neg (by decide), x_name1 hT hQ (c := c + 1) hl hi (k := 0) (by omega) h3 hz, bN_s]
      exact x_namesL hQ hT hi 5 0 (c + 1) _ (by omega) (by omega) (by omega) hl2
    · rw [if_neg h3, x_name2 hT (c := c + 1) hl h3, bN_s, n_names16 hT (F2_n0 T _)]
      exact ⟨F2_in T _, _, rfl, fun _ => offR.rf⟩
  · rw [if_neg h91, u_need2 hT hc h91, bN_s, xV_64, n_name hT (F2_n0 T _), bN_s, n_names16 hT (F2_n0 T _)]
    exact ⟨F2_in T _, _, rfl, fun _ => offR.rf⟩
end MJ53b
end
section
/-! ===== INS; a CLASS's head ===== -/
section MJ54
variable {T : TT} {d N c q ci fm : Nat} {s : mjSt3} {f p o v : Int32} {ag : Nat → Int32}
theorem chR_i {q ci fm : Nat} : chR q ci fm (q + 3) ci := Or.inr (Or.inr (Or.inl ⟨by omega, rfl⟩))
theorem n_in (hT : TH T N s) (hf : ¬ f = 0) (i : Int32) : mjF (d + 2) 133 [.ref 64, .int i] (mjW0 (eR s (N, f, p, o, v, ag))) = some (none, mjW0 (eR s (N, f, p, o, v, ag))) := by
  rw [e_133]
  unfold f_133 b_133_0
  rw [xg_64_0, xV_58, u_is hT (Nat.le_refl N), bI_s, i01, if_neg (kN hT (by decide)), xg_64_0, xV_58, u_refN hT hf, bN_s]
theorem L132_S (R : mjR) (n : Nat) (a : Nat) (b c : Int32) (hp : mjH) : L_132_27 R (n + 1) a b c hp = b_132_27 R (L_132_27 R n) a b c hp := rfl
theorem n_ins27 (hT : TH T N s) (n : Nat) (i k : Int32) : L_132_27 (mjF (d + 2)) (n + 1) 64 i k (mjW0 (eR s (N, f, p, o, v, ag))) = some (none, mjW0 (eR s (N, f, p, o, v, ag))) := by
  rw [L132_S]
  unfold b_132_27
  simp only [xg_64_0, xV_58, u_is hT (Nat.le_refl N), bI_s, i01, if_neg (kN hT (k := 44) (by decide)), if_true, ite_self]
/-- one IN, as the result says -/
def inR (T : TT) (k c : Nat) : (Nat × Nat) ⊕ Nat := if (T c).1 = 3 then (if k = 8 then .inl (3, c) else if (T (c + 1)).1 = 8 then (if (T (c + 2)).1 = 3 then .inr (c + 3) else .inl (F2 T (c + 2))) else .inl (F2 T (c + 1))) else .inl (F2 T c)
theorem x_in (hT : TH T N s) (hQ : RQ q s) (hc : c ≤ N) (hi : ci < 16) {k : Nat} (hk : k ≤ 8) (hn : s.1 (q + 3) ci = nI k) : match inR T k c with
    | .inl e => (e.1 = 1 ∨ e.1 = 2 ∨ e.1 = 3) ∧ ∃ s', mjF (d + 3) 133 [.ref 64, .int (nI ci)] (mjW0 (eR s (c, 0, p, o, v, ag))) = some (none, mjW0 (eR s' (N, nI e.1, (T e.2).2.1, o, v, ag))) ∧ ∀ fm, offR q ci fm s s'
    | .inr c' => c' ≤ N ∧ k < 8 ∧ c < N ∧ mjF (d + 3) 133 [.ref 64, .int (nI ci)] (mjW0 (eR s (c, 0, p, o, v, ag))) = some (none, mjW0 (eR (uI s (q + 3) (upd (s.1 (q + 3)) ci (nI (k + 1)))) (c', 0, p, o, v, ag))) := by
  rw [e_133]
  unfold f_133 b_133_0 inR
  rw [xg_64_0, xV_58, u_is hT hc, bI_s, i01]
  by_cases h3 : (T c).1 = 3
  · have hl := lt_of hT hc h3 (by decide)
    rw [if_pos h3, if_pos h3, xg_64_1, eR_2, hQ.2.1, yg_3 hQ.1, ya_3 hQ.1, if_pos (mj_in_nI hi (by decide)), nI_clamp (by omega), eR_p hQ.1 (by omega), hn]
    by_cases k8 : k = 8
    · subst k8
      rw [if_pos (show nI 8 = 8 from rfl), if_pos rfl, xg_64_0, xV_58, u_ref3 hT hc (by rw [h3]; decide), bN_s]
      exact ⟨Or.inr (Or.inr rfl), _, rfl, fun _ => offR.rf⟩
    · have k8' : ¬ nI k = 8 := fun e => k8 ((nI_eq (a := k) (b := 8) (by omega) (by omega)).mp e)
      have hT' : TH T N (uI s (q + 3) (upd (s.1 (q + 3)) ci (nI (k + 1)))) := hT.off hQ.1 (offR.w (ci := ci) (fm := 0) chR_i)
      have ho : ∀ fm, offR q ci fm s (uI s (q + 3) (upd (s.1 (q + 3)) ci (nI (k + 1)))) := fun fm => offR.w chR_i
      rw [if_neg k8', if_neg k8, xg_64_1, eR_2, hQ.2.1, yg_3 hQ.1, ya_3 hQ.1, if_pos (mj_in_nI hi (by decide)), nI_clamp (by omega), eR_p hQ.1 (by omega), hn, nI_1, ys_3 hQ.1, if_pos (mj_in_nI hi (by decide)), nI_clamp (by omega), eR_p hQ.1 (by omega), wR_p hQ.1 (by omega), xg_64_0, xV_58, u_skip hT' hl, bN_s, xg_64_0, xV_58]
      by_cases h8 : (T (c + 1)).1 = 8
      · have hl1 := lt_of hT (c := c + 1) hl h8 (by decide)
        rw [if_pos h8, u_need hT' (c := c + 1) hl h8 (by decide), bN_s, xg_64_0, xV_58]
        by_cases h3' : (T (c + 2)).1 = 3
        · have hl2 := lt_of hT (c := c + 2) (by omega) h3' (by decide)
          rw [if_pos h3', u_need hT' (c := c + 1 + 1) (by omega) h3' (by decide), bN_s]
          exact ⟨by omega, by omega, hl, rfl⟩
        · rw [if_neg h3', u_need2 hT' (c := c + 1 + 1) (by omega) h3', bN_s]
          exact ⟨F2_in T _, _, rfl, ho⟩
      · rw [if_neg h8, u_need2 hT' (c := c + 1) hl h8, bN_s, xg_64_0, xV_58, u_needN hT' (F2_n0 T _), bN_s]
        exact ⟨F2_in T _, _, rfl, ho⟩
  · rw [if_neg h3, if_neg h3, xg_64_0, xV_58, u_ref2 hT hc, bN_s]
    exact ⟨F2_in T _, _, rfl, fun _ => offR.rf⟩
theorem pIns_in (f k c : Nat) : pIns T (f + 1) k c = (match inR T k c with
    | .inl e => .inl e
    | .inr c' => if (T c').1 = 44 then pIns T f (k + 1) (c' + 1) else .inr (k + 1, c')) := by
  unfold inR
  show (if (T c).1 = 3 then _ else _) = _
  by_cases h3 : (T c).1 = 3
  · rw [if_pos h3, if_pos h3]
    by_cases k8 : k = 8
    · rw [if_pos k8, if_pos k8]
    · rw [if_neg k8, if_neg k8]
      by_cases h8 : (T (c + 1)).1 = 8
      · rw [if_pos h8, if_pos h8]
        by_cases h3' : (T (c + 2)).1 = 3
        · rw [if_pos h3', if_pos h3']
        · rw [if_neg h3', if_neg h3']
      · rw [if_neg h8, if_neg h8]
  · rw [if_neg h3, if_neg h3]
/-- INS -/
def isOK (q ci : Nat) (s : mjSt3) (T : TT) (N : Nat) (u : mjU) (p o v : Int32) (ag : Nat → Int32) (r : (Nat × Nat) ⊕ (Nat × Nat)) : Prop := match r with
  | .inl e => (e.1 = 1 ∨ e.1 = 2 ∨ e.1 = 3) ∧ ∃ s', u = some (none, mjW0 (eR s' (N, nI e.1, (T e.2).2.1, o, v, ag))) ∧ ∀ fm, offR q ci fm s s'
  | .inr a => a.2 ≤ N ∧ a.1 ≤ 8 ∧ u = some (none, mjW0 (eR (uI s (q + 3) (upd (s.1 (q + 3)) ci (nI a.1))) (a.2, 0, p, o, v, ag)))
theorem x_insL (hQ : RQ q s) (hT : TH T N s) (hi : ci < 16) : ∀ (f k c n : Nat), f + k = 8 → k < 8 → f + 1 < n → c ≤ N → isOK q ci s T N (L_132_27 (mjF (d + 3)) n 64 (nI ci) (nI k) (mjW0 (eR (uI s (q + 3) (upd (s.1 (q + 3)) ci (nI (k + 1)))) (c, 0, p, o, v, ag)))) p o v ag (if (T c).1 = 44 then pIns T f (k + 1) (c + 1) else .inr (k + 1, c))
  | 0, k, c, n, hk, h5, hn, hc => by omega
  | f + 1, k, c, n, hk, h5, hn, hc => by
    obtain ⟨n, rfl⟩ : ∃ m, n = m + 1 := ⟨n - 1, by omega⟩
    have hT' : TH T N (uI s (q + 3) (upd (s.1 (q + 3)) ci (nI (k + 1)))) := hT.off hQ.1 (offR.w (ci := ci) (fm := 0) chR_i)
    have hQ' : RQ q (uI s (q + 3) (upd (s.1 (q + 3)) ci (nI (k + 1)))) := hQ.off (offR.w (ci := ci) (fm := 0) chR_i)
    have hv : (uI s (q + 3) (upd (s.1 (q + 3)) ci (nI (k + 1)))).1 (q + 3) ci = nI (k + 1) := by rw [uI_same]; exact if_pos rfl
    have ho : ∀ fm, offR q ci fm s (uI s (q + 3) (upd (s.1 (q + 3)) ci (nI (k + 1)))) := fun fm => offR.w chR_i
    rw [L132_S]
    unfold b_132_27
    rw [if_neg (show ¬ (8 : Int32) ≤ nI k from nI_ge (b := 8) (by omega) (by omega)), xg_64_0, xV_58, u_is hT' hc, bI_s, i01]
    by_cases h44 : (T c).1 = 44
    · have hl : c < N := lt_of hT hc h44 (by decide)
      rw [if_pos h44, if_pos h44, xg_64_0, xV_58, u_skip hT' hl, bN_s, xV_64, pIns_in]
      have h := x_in (d := d) (p := p) (o := o) (v := v) (ag := ag) hT' hQ' (c := c + 1) hl hi (k := k + 1) (by omega) hv
      cases hd : inR T (k + 1) (c + 1) with
      | inl e =>
        rw [hd] at h
        obtain ⟨he, s', h, o'⟩ := h
        obtain ⟨n, rfl⟩ : ∃ m, n = m + 1 := ⟨n - 1, by omega⟩
        rw [h, bN_s, n_ins27 (hT'.off hQ.1 (o' 0))]
        exact ⟨he, _, rfl, fun fm => (ho fm).tr (o' fm)⟩
      | inr c' =>
        rw [hd] at h
        obtain ⟨hc', hk', _, h⟩ := h
        rw [h, bN_s, nI_1, uI_same, upd_upd, uI_uI]
        exact x_insL hQ hT hi f (k + 1) c' n (by omega) hk' (by omega) hc'
    · rw [if_neg h44, if_neg h44]
      exact ⟨hc, by show k + 1 ≤ 8; omega, rfl⟩
/-- readIns, the cursor at where -/
theorem x_ins (hQ : RQ q s) (hT : TH T N s) (hi : ci < 16) (hc : c < N) (hz : s.1 (q + 3) ci = 0) : isOK q ci (uI s 67 (upd (s.1 67) ci (nI (c + 1)))) T N (mjF (d + 4) 132 [.ref 64, .int (nI ci)] (mjW0 (eR s (c, 0, p, o, v, ag)))) p o v ag (pIns T 9 0 (c + 1)) := by
  have hq : q = 2 ∨ q = 30 := hQ.1
  have h67 : offR q ci 0 s (uI s 67 (upd (s.1 67) ci (nI (c + 1)))) := offR.w (Or.inr (Or.inr (Or.inl ⟨by omega, rfl⟩)))
  rw [e_132]
  unfold f_132 b_132_0
  rw [xg_64_0, xV_58, u_skip hT hc, bN_s, xg_64_5, xg_64_0, xV_58, u_now hT (by omega), bI_s, xs_67, if_pos (mj_in_nI hi (by decide)), nI_clamp (by omega), eR_r (by decide), wR_r (by decide), xV_64, show mjN = 99999999 + 1 from rfl, pIns_in]
  have h := x_in (d := d) (p := p) (o := o) (v := v) (ag := ag) (hT.off hQ.1 h67) (hQ.off h67) (c := c + 1) hc hi (k := 0) (by omega) (by rw [uI_ne _ _ _ _ (by omega)]; exact hz)
  cases hd : inR T 0 (c + 1) with
  | inl e =>
    rw [hd] at h
    obtain ⟨he, s', h, o'⟩ := h
    rw [h, bN_s, n_ins27 ((hT.off hQ.1 h67).off hQ.1 (o' 0))]
    exact ⟨he, _, rfl, o'⟩
  | inr c' =>
    rw [hd] at h
    obtain ⟨hc', hk', _, h⟩ := h
    rw [h, bN_s]
    exact x_insL (hQ.off h67) (hT.off hQ.1 h67) hi 8 0 c' _ (by omega) (by omega) (by omega) hc'
theorem n_ins (hT : TH T N s) (hQ : isP q) (hf : ¬ f = 0) (hi : ci < 16) : ∃ s', mjF (d + 4) 132 [.ref 64, .int (nI ci)] (mjW0 (eR s (N, f, p, o, v, ag))) = some (none, mjW0 (eR s' (N, f, p, o, v, ag))) ∧ ∀ fm, offR q ci fm s s' := by
  have hq : q = 2 ∨ q = 30 := hQ
  have h67 : ∀ fm, offR q ci fm s (uI s 67 (upd (s.1 67) ci (nI N))) := fun fm => offR.w (Or.inr (Or.inr (Or.inl ⟨by omega, rfl⟩)))
  refine ⟨_, ?_, h67⟩
  rw [e_132]
  unfold f_132 b_132_0
  rw [xg_64_0, xV_58, u_skipN hT, bN_s, xg_64_5, xg_64_0, xV_58, u_now hT (Nat.le_refl N), bI_s, xs_67, if_pos (mj_in_nI hi (by decide)), nI_clamp (by omega), eR_r (by decide), wR_r (by decide), xV_64, show mjN = 99999999 + 1 from rfl, n_in (hT.off hQ (h67 0)) hf, bN_s, n_ins27 (hT.off hQ (h67 0))]
end MJ54
end
section
/-! ===== a CLASS's head ===== -/
theorem uI_g (s : mjSt3) (h : Nat) (f : Nat → Int32) (h' j : Nat) : (uI s h f).1 h' j = if h' = h then f j else s.1 h' j := by
  by_cases e : h' = h
  · rw [if_pos e, e, uI_same]
  · rw [if_neg e, uI_ne _ _ _ _ e]
theorem upd_g (f : Nat → Int32) (j : Nat) (v : Int32) (i : Nat) : upd f j v i = if i = j then v else f i := rfl
/-- the head's rows -/
def HF (T : TT) (q ci fm : Nat) (s : mjSt3) (hd : HD) : Prop := s.1 (q + 9) ci = nI fm ∧ s.1 65 ci = nI hd.1 ∧ s.1 (q + 2) ci = (T hd.1).2.1 ∧ s.1 (q + 1) ci = nI hd.2.1 ∧ s.1 66 ci = (if hd.2.2.1 = 0 then -1 else nI (hd.2.2.1 - 1)) ∧ s.1 (q + 3) ci = nI hd.2.2.2.2 ∧ (hd.2.2.2.2 = 0 ∨ s.1 67 ci = nI hd.2.2.2.1)
/-- what a head leaves as it was -/
def HK (q ci : Nat) (s s' : mjSt3) : Prop := s'.1 (q + 14) = s.1 (q + 14) ∧ s'.1 (q + 6) = s.1 (q + 6) ∧ s'.1 (q + 7) = s.1 (q + 7) ∧ s'.1 (q + 10) = s.1 (q + 10) ∧ s'.1 (q + 18) = s.1 (q + 18) ∧ s'.1 (q + 20) = s.1 (q + 20) ∧ s'.1 (q + 16) = s.1 (q + 16)
section MJ55
variable {T : TT} {d N c q ci fm : Nat} {s : mjSt3} {f p o v : Int32} {ag : Nat → Int32}
noncomputable def k127 (R : mjR) (l0 : Nat) (l1 : Int32) (hp27 : mjH) : mjU := gR hp27 l0 8 4 (fun v28 => sI hp27 v28 l1 (-1 : Int32) (fun hp29 => gR hp29 l0 8 0 (fun v30 => rV hp29 v30 9 (bI (R 164 [.ref v30, .int (6 : Int32)] hp29) (fun v31 hp32 => (if v31 = 0 then b_127_144 R l0 l1 hp32 else gR hp32 l0 8 4 (fun v33 => gR hp32 l0 8 0 (fun v34 => rV hp32 v34 9 (bI (R 167 [.ref v34] hp32) (fun v35 hp36 => sI hp36 v33 l1 v35 (fun hp37 => gR hp37 l0 8 0 (fun v38 => rV hp37 v38 9 (bN (R 166 [.ref v38] hp37) (fun  hp39 => rV hp39 l0 8 (bN (R 130 [.ref l0, .int (0 : Int32)] hp39) (fun  hp40 => b_127_144 R l0 l1 hp40))))))))))))))))
theorem ch66 {q ci fm : Nat} : chR q ci fm 66 ci := Or.inr (Or.inr (Or.inl ⟨by omega, rfl⟩))
/-- where and { in a bad state -/
theorem n_144 (hT : TH T N s) (hf : ¬ f = 0) (i : Int32) : b_127_144 (mjF (d + 4)) 64 i (mjW0 (eR s (N, f, p, o, v, ag))) = some (none, mjW0 (eR s (N, f, p, o, v, ag))) := by
  unfold b_127_144 b_127_161
  rw [xg_64_0, xV_58, u_is hT (Nat.le_refl N), bI_s, i01, if_neg (kN hT (by decide)), xV_64, u_openN hT hf (by decide), bN_s]
theorem n_k127 (hT : TH T N s) (hQ : isP q) (hf : ¬ f = 0) (hi : ci < 16) : ∃ s', k127 (mjF (d + 4)) 64 (nI ci) (mjW0 (eR s (N, f, p, o, v, ag))) = some (none, mjW0 (eR s' (N, f, p, o, v, ag))) ∧ ∀ fm, offR q ci fm s s' := by
  have h66 : ∀ fm, offR q ci fm s (uI s 66 (upd (s.1 66) ci (-1))) := fun fm => offR.w ch66
  refine ⟨_, ?_, h66⟩
  unfold k127
  rw [xg_64_4, xs_66, if_pos (mj_in_nI hi (by decide)), nI_clamp (by omega), eR_r (by decide), wR_r (by decide), xg_64_0, xV_58, u_is (hT.off hQ (h66 0)) (Nat.le_refl N), bI_s, i01, if_neg (kN hT (by decide)), n_144 (hT.off hQ (h66 0)) hf]
/-- from where on -/
theorem x_144 (hT : TH T N s) (hQ : RQ q s) (hi : ci < 16) {o : Nat} (ho : o < 12) (hc : c ≤ N) (hz : s.1 (q + 3) ci = 0) : match pWhere T c with
    | .inl e => hbOK q ci fm s T N (b_127_144 (mjF (d + 4)) 64 (nI ci) (mjW0 (eR s (c, 0, p, nI o, v, ag)))) e
    | .inr w => ((T w.2).1 = 123 → w.2 < N ∧ ∃ s', b_127_144 (mjF (d + 4)) 64 (nI ci) (mjW0 (eR s (c, 0, p, nI o, v, ag))) = some (none, mjW0 (eR s' (w.2 + 1, 0, p, nI (o + 1), v, ag))) ∧ offR q ci fm s s' ∧ s'.1 (q + 3) ci = nI w.1 ∧ (w.1 = 0 ∨ s'.1 67 ci = nI (c + 1)) ∧ ∀ h, ¬ h = 67 → ¬ h = q + 3 → s'.1 h = s.1 h) ∧ (¬ (T w.2).1 = 123 → hbOK q ci fm s T N (b_127_144 (mjF (d + 4)) 64 (nI ci) (mjW0 (eR s (c, 0, p, nI o, v, ag)))) (F2 T w.2)) := by
  have hq : q = 2 ∨ q = 30 := hQ.1
  unfold b_127_144 b_127_161 pWhere
  rw [xg_64_0, xV_58, u_is hT hc, bI_s, i01]
  by_cases h7 : (T c).1 = 7
  · have hl := lt_of hT hc h7 (by decide)
    have h67 : ∀ fm, offR q ci fm s (uI s 67 (upd (s.1 67) ci (nI (c + 1)))) := fun fm => offR.w (Or.inr (Or.inr (Or.inl ⟨by omega, rfl⟩)))
    rw [if_pos h7, if_pos h7, xV_64]
    have h := x_ins (d := d) (p := p) (o := nI o) (v := v) (ag := ag) hQ hT hi hl hz
    cases hd : pIns T 9 0 (c + 1) with
    | inl e =>
      rw [hd] at h
      obtain ⟨he, s', h, o'⟩ := h
      rw [h, bN_s, xV_64, u_openN ((hT.off hQ.1 (h67 0)).off hQ.1 (o' 0)) (in_n0 he) (by decide), bN_s]
      exact ⟨he, _, _, _, _, rfl, (h67 fm).tr (o' fm)⟩
    | inr w =>
      rw [hd] at h
      obtain ⟨hw, _, h⟩ := h
      have oI : ∀ fm, offR q ci fm (uI s 67 (upd (s.1 67) ci (nI (c + 1)))) (uI (uI s 67 (upd (s.1 67) ci (nI (c + 1)))) (q + 3) (upd ((uI s 67 (upd (s.1 67) ci (nI (c + 1)))).1 (q + 3)) ci (nI w.1))) := fun fm => offR.w chR_i
      have hT' := (hT.off hQ.1 (h67 0)).off hQ.1 (oI 0)
      rw [h, bN_s, xV_64]
      refine ⟨fun h123 => ?_, fun h123 => ?_⟩
      · have hl2 := lt_of hT hw h123 (by decide)
        rw [u_open hT' hw h123 (by decide) ho, bN_s]
        refine ⟨hl2, _, rfl, (h67 fm).tr (oI fm), ?_, Or.inr ?_, fun h h1 h2 => ?_⟩
        · rw [uI_same]; exact if_pos rfl
        · rw [uI_ne _ _ _ _ (by omega), uI_same]; exact if_pos rfl
        · rw [uI_ne _ _ _ _ h2, uI_ne _ _ _ _ h1]
      · rw [u_open2 hT' hw h123, bN_s]
        exact ⟨F2_in T _, _, _, _, _, rfl, (h67 fm).tr (oI fm)⟩
  · rw [if_neg h7, if_neg h7, xV_64]
    refine ⟨fun h123 => ?_, fun h123 => ?_⟩
    · have hl2 := lt_of hT hc h123 (by decide)
      rw [u_open hT hc h123 (by decide) ho, bN_s]
      exact ⟨hl2, _, rfl, offR.rf, hz, Or.inl rfl, fun h h1 h2 => rfl⟩
    · rw [u_open2 hT hc h123, bN_s]
      exact ⟨F2_in T _, _, _, _, _, rfl, offR.rf⟩
/-- behind NAMES -/
theorem x_k127 (hT : TH T N s) (hQ : RQ q s) (hi : ci < 16) {o : Nat} (ho : o < 12) (hc : c ≤ N) (hz : s.1 (q + 3) ci = 0) : match pAbove T c with
    | .inl e => hbOK q ci fm s T N (k127 (mjF (d + 4)) 64 (nI ci) (mjW0 (eR s (c, 0, p, nI o, v, ag)))) e
    | .inr c2 => match pWhere T c2 with
      | .inl e => hbOK q ci fm s T N (k127 (mjF (d + 4)) 64 (nI ci) (mjW0 (eR s (c, 0, p, nI o, v, ag)))) e
      | .inr w => ((T w.2).1 = 123 → w.2 < N ∧ ∃ s', k127 (mjF (d + 4)) 64 (nI ci) (mjW0 (eR s (c, 0, p, nI o, v, ag))) = some (none, mjW0 (eR s' (w.2 + 1, 0, p, nI (o + 1), v, ag))) ∧ offR q ci fm s s' ∧ s'.1 (q + 3) ci = nI w.1 ∧ (w.1 = 0 ∨ s'.1 67 ci = nI (c2 + 1)) ∧ s'.1 66 ci = (if (T c).1 = 6 then nI c else -1) ∧ ∀ h, ¬ h = 66 → ¬ h = 67 → ¬ h = q + 3 → s'.1 h = s.1 h) ∧ (¬ (T w.2).1 = 123 → hbOK q ci fm s T N (k127 (mjF (d + 4)) 64 (nI ci) (mjW0 (eR s (c, 0, p, nI o, v, ag)))) (F2 T w.2)) := by
  have hq : q = 2 ∨ q = 30 := hQ.1
  have h66 : ∀ fm, offR q ci fm s (uI s 66 (upd (s.1 66) ci (-1))) := fun fm => offR.w ch66
  have hT1 := hT.off hQ.1 (h66 0)
  have hQ1 := hQ.off (h66 0)
  unfold k127 pAbove
  rw [xg_64_4, xs_66, if_pos (mj_in_nI hi (by decide)), nI_clamp (by omega), eR_r (by decide), wR_r (by decide), xg_64_0, xV_58, u_is hT1 hc, bI_s, i01]
  by_cases h6 : (T c).1 = 6
  · have hl := lt_of hT hc h6 (by decide)
    have e66 : uI (uI s 66 (upd (s.1 66) ci (-1))) 66 (upd ((uI s 66 (upd (s.1 66) ci (-1))).1 66) ci (nI c)) = uI s 66 (upd (s.1 66) ci (nI c)) := by rw [uI_same, upd_upd, uI_uI]
    have g66 : ∀ fm, offR q ci fm s (uI s 66 (upd (s.1 66) ci (nI c))) := fun fm => offR.w ch66
    have hT2 := hT.off hQ.1 (g66 0)
    have hQ2 := hQ.off (g66 0)
    rw [if_pos h6, if_pos h6, xg_64_4, xg_64_0, xV_58, u_now hT1 hc, bI_s, xs_66, if_pos (mj_in_nI hi (by decide)), nI_clamp (by omega), eR_r (by decide), wR_r (by decide), e66, xg_64_0, xV_58, u_skip hT2 hl, bN_s, xV_64]
    have h := x_kind (d := d + 1) (p := p) (o := nI o) (v := v) (ag := ag) hT2 (c := c + 1) hl
    cases hd : pKind T (c + 1) with
    | inl e =>
      rw [hd] at h
      obtain ⟨he, h⟩ := h
      rw [h, bN_s, n_144 hT2 (in_n0 he)]
      exact ⟨he, _, _, _, _, rfl, g66 fm⟩
    | inr c2 =>
      rw [hd] at h
      obtain ⟨hc2, h⟩ := h
      rw [h, bN_s]
      have k := x_144 (d := d) (fm := fm) (p := p) (v := v) (ag := ag) hT2 hQ2 hi ho hc2 (by rw [uI_ne _ _ _ _ (by omega)]; exact hz)
      show match pWhere T c2 with
        | .inl e => _
        | .inr w => _
      cases hw : pWhere T c2 with
      | inl e =>
        rw [hw] at k
        obtain ⟨he, s', o', v', ag', k, r⟩ := k
        exact ⟨he, s', o', v', ag', k, (g66 fm).tr r⟩
      | inr w =>
        rw [hw] at k
        refine ⟨fun h123 => ?_, fun h123 => ?_⟩
        · obtain ⟨k1, s', k2, k3, k4, k5, k6⟩ := k.1 h123
          refine ⟨k1, s', k2, (g66 fm).tr k3, k4, k5, ?_, fun h a b e => ?_⟩
          · rw [if_pos h6, k6 66 (by decide) (by omega), uI_same]; exact if_pos rfl
          · rw [k6 h b e, uI_ne _ _ _ _ a]
        · obtain ⟨he, s', o', v', ag', k, r⟩ := k.2 h123
          exact ⟨he, s', o', v', ag', k, (g66 fm).tr r⟩
  · rw [if_neg h6, if_neg h6]
    have k := x_144 (d := d) (fm := fm) (p := p) (v := v) (ag := ag) hT1 hQ1 hi ho hc (by rw [uI_ne _ _ _ _ (by omega)]; exact hz)
    show match pWhere T c with
      | .inl e => _
      | .inr w => _
    cases hw : pWhere T c with
    | inl e =>
      rw [hw] at k
      obtain ⟨he, s', o', v', ag', k, r⟩ := k
      exact ⟨he, s', o', v', ag', k, (h66 fm).tr r⟩
    | inr w =>
      rw [hw] at k
      refine ⟨fun h123 => ?_, fun h123 => ?_⟩
      · obtain ⟨k1, s', k2, k3, k4, k5, k6⟩ := k.1 h123
        refine ⟨k1, s', k2, (h66 fm).tr k3, k4, k5, ?_, fun h a b e => ?_⟩
        · rw [if_neg h6, k6 66 (by decide) (by omega), uI_same]; exact if_pos rfl
        · rw [k6 h b e, uI_ne _ _ _ _ a]
      · obtain ⟨he, s', o', v', ag', k, r⟩ := k.2 h123
        exact ⟨he, s', o', v', ag', k, (h66 fm).tr r⟩
end MJ55
end
section
/-! ===== a CLASS's head, whole ===== -/
section MJ56
variable {T : TT} {d N c q ci fm : Nat} {s : mjSt3} {f p o v : Int32} {ag : Nat → Int32}
theorem u_place (hT : TH T N s) (hc : c ≤ N) {k : Nat} (hk : k ≤ N) : mjF (d + 1) 168 [.ref 58, .int (nI k)] (mjW0 (eR s (c, f, p, o, v, ag))) = some (some (.int (T k).2.1), mjW0 (eR s (c, f, p, o, v, ag))) := by
  rw [x_placeAt (eR_Tk hT.tb (show (c, f, p, o, v, ag).1 ≤ N from hc)) (by omega), eR_61, (hT.2.2.2 k hk).2]
/-- the base behind the head's first rows -/
def hd4 (T : TT) (s : mjSt3) (q ci fm c : Nat) : mjSt3 := uI (uI (uI (uI s q (upd (s.1 q) 0 (nI (ci + 1)))) (q + 9) (upd (s.1 (q + 9)) ci (nI fm))) 65 (upd (s.1 65) ci (nI (c + 1)))) (q + 2) (upd (s.1 (q + 2)) ci (T (c + 1)).2.1)
theorem hd4_off (hQ : isP q) : offR q ci fm s (hd4 T s q ci fm c) := by
  have hq : q = 2 ∨ q = 30 := hQ
  have a : offR q ci fm s (uI s q (upd (s.1 q) 0 (nI (ci + 1)))) := offR.w (Or.inl ⟨rfl, rfl⟩)
  have b : offR q ci fm _ (uI (uI s q (upd (s.1 q) 0 (nI (ci + 1)))) (q + 9) (upd ((uI s q (upd (s.1 q) 0 (nI (ci + 1)))).1 (q + 9)) ci (nI fm))) := offR.w (Or.inr (Or.inr (Or.inl ⟨by omega, rfl⟩)))
  rw [uI_ne _ _ _ _ (show ¬ q + 9 = q by omega)] at b
  have e : offR q ci fm _ (uI (uI (uI s q (upd (s.1 q) 0 (nI (ci + 1)))) (q + 9) (upd (s.1 (q + 9)) ci (nI fm))) 65 (upd ((uI (uI s q (upd (s.1 q) 0 (nI (ci + 1)))) (q + 9) (upd (s.1 (q + 9)) ci (nI fm))).1 65) ci (nI (c + 1)))) := offR.w (Or.inr (Or.inr (Or.inl ⟨by omega, rfl⟩)))
  rw [uI_ne _ _ _ _ (show ¬ 65 = q + 9 by omega), uI_ne _ _ _ _ (show ¬ 65 = q by omega)] at e
  have g : offR q ci fm _ (uI (uI (uI (uI s q (upd (s.1 q) 0 (nI (ci + 1)))) (q + 9) (upd (s.1 (q + 9)) ci (nI fm))) 65 (upd (s.1 65) ci (nI (c + 1)))) (q + 2) (upd ((uI (uI (uI s q (upd (s.1 q) 0 (nI (ci + 1)))) (q + 9) (upd (s.1 (q + 9)) ci (nI fm))) 65 (upd (s.1 65) ci (nI (c + 1)))).1 (q + 2)) ci (T (c + 1)).2.1)) := offR.w (Or.inr (Or.inr (Or.inl ⟨by omega, rfl⟩)))
  rw [uI_ne _ _ _ _ (show ¬ q + 2 = 65 by omega), uI_ne _ _ _ _ (show ¬ q + 2 = q + 9 by omega), uI_ne _ _ _ _ (show ¬ q + 2 = q by omega)] at g
  exact ((a.tr b).tr e).tr g
theorem hd4_at (hQ : isP q) : (hd4 T s q ci fm c).1 q 0 = nI (ci + 1) ∧ (hd4 T s q ci fm c).1 (q + 9) ci = nI fm ∧ (hd4 T s q ci fm c).1 65 ci = nI (c + 1) ∧ (hd4 T s q ci fm c).1 (q + 2) ci = (T (c + 1)).2.1 ∧ ∀ h, ¬ h = q → ¬ h = q + 9 → ¬ h = 65 → ¬ h = q + 2 → (hd4 T s q ci fm c).1 h = s.1 h := by
  have hq : q = 2 ∨ q = 30 := hQ
  unfold hd4
  refine ⟨?_, ?_, ?_, ?_, fun h a b e g => ?_⟩
  · rw [uI_ne _ _ _ _ (by omega), uI_ne _ _ _ _ (by omega), uI_ne _ _ _ _ (by omega), uI_same]; exact if_pos rfl
  · rw [uI_ne _ _ _ _ (by omega), uI_ne _ _ _ _ (by omega), uI_same]; exact if_pos rfl
  · rw [uI_ne _ _ _ _ (by omega), uI_same]; exact if_pos rfl
  · rw [uI_same]; exact if_pos rfl
  · rw [uI_ne _ _ _ _ g, uI_ne _ _ _ _ e, uI_ne _ _ _ _ b, uI_ne _ _ _ _ a]
theorem x_head (hT : TH T N s) (hQ : RQ q s) (hi : ci ≤ 16) {o : Nat} (ho : o < 12) (hc : c ≤ N) (h5 : (T c).1 = 5) (hcl : s.1 q 0 = nI ci) (hm : s.1 (q + 14) 0 = nI fm) (hz1 : ci < 16 → s.1 (q + 1) ci = 0) (hz3 : ci < 16 → s.1 (q + 3) ci = 0) : match pHead T ci c with
    | .inl e => hbOK q ci fm s T N (mjF (d + 5) 127 [.ref 64, .int (nI ci)] (mjW0 (eR s (c, 0, p, nI o, v, ag)))) e
    | .inr r => r.1 ≤ N ∧ ∃ s', mjF (d + 5) 127 [.ref 64, .int (nI ci)] (mjW0 (eR s (c, 0, p, nI o, v, ag))) = some (none, mjW0 (eR s' (r.1, 0, p, nI (o + 1), v, ag))) ∧ offR q ci fm s s' ∧ HF T q ci fm s' r.2 ∧ s'.1 q 0 = nI (ci + 1) ∧ HK q ci s s' := by
  have hq : q = 2 ∨ q = 30 := hQ.1
  have hl := lt_of hT hc h5 (by decide)
  rw [e_127]
  unfold f_127 b_127_0 pHead
  by_cases h16 : ci = 16
  · subst h16
    rw [if_pos (show nI 16 = 16 from rfl), if_pos rfl, xg_64_0, xV_58, u_ref3 hT hc (by rw [h5]; decide), bN_s]
    exact ⟨Or.inr (Or.inr rfl), _, _, _, _, rfl, offR.rf⟩
  have hi' : ci < 16 := by omega
  have n16 : ¬ nI ci = 16 := fun e => h16 ((nI_eq (a := ci) (b := 16) (by omega) (by omega)).mp e)
  have o4 : offR q ci fm s (hd4 T s q ci fm c) := hd4_off hQ.1
  have f4 := hd4_at (T := T) (s := s) (ci := ci) (fm := fm) (c := c) hQ.1
  have hT4 := hT.off hQ.1 o4
  have hQ4 := hQ.off o4
  have oa : offR q ci 0 s (uI (uI s q (upd (s.1 q) 0 (nI (ci + 1)))) (q + 9) (upd (s.1 (q + 9)) ci (nI fm))) := by
    have a : offR q ci 0 s (uI s q (upd (s.1 q) 0 (nI (ci + 1)))) := offR.w (Or.inl ⟨rfl, rfl⟩)
    have b : offR q ci 0 _ (uI (uI s q (upd (s.1 q) 0 (nI (ci + 1)))) (q + 9) (upd ((uI s q (upd (s.1 q) 0 (nI (ci + 1)))).1 (q + 9)) ci (nI fm))) := offR.w (Or.inr (Or.inr (Or.inl ⟨by omega, rfl⟩)))
    rw [uI_ne _ _ _ _ (show ¬ q + 9 = q by omega)] at b
    exact a.tr b
  have hTa := hT.off hQ.1 oa
  have hQa := hQ.off oa
  have ob : offR q ci 0 (uI (uI s q (upd (s.1 q) 0 (nI (ci + 1)))) (q + 9) (upd (s.1 (q + 9)) ci (nI fm))) (uI (uI (uI s q (upd (s.1 q) 0 (nI (ci + 1)))) (q + 9) (upd (s.1 (q + 9)) ci (nI fm))) 65 (upd (s.1 65) ci (nI (c + 1)))) := by
    have e : offR q ci 0 (uI (uI s q (upd (s.1 q) 0 (nI (ci + 1)))) (q + 9) (upd (s.1 (q + 9)) ci (nI fm))) (uI (uI (uI s q (upd (s.1 q) 0 (nI (ci + 1)))) (q + 9) (upd (s.1 (q + 9)) ci (nI fm))) 65 (upd ((uI (uI s q (upd (s.1 q) 0 (nI (ci + 1)))) (q + 9) (upd (s.1 (q + 9)) ci (nI fm))).1 65) ci (nI (c + 1)))) := offR.w (Or.inr (Or.inr (Or.inl ⟨by omega, rfl⟩)))
    rw [uI_ne _ _ _ _ (show ¬ 65 = q + 9 by omega), uI_ne _ _ _ _ (show ¬ 65 = q by omega)] at e
    exact e
  have hTb := hTa.off hQ.1 ob
  have hQb := hQa.off ob
  rw [if_neg n16, if_neg h16, xg_64_1, eR_2, hQ.2.1, yg_0 hQ.1, eR_p0 hQ.1, hcl, nI_1, yp_0 hQ.1, eR_p0 hQ.1, wR_p0 hQ.1, xg_64_1]
  rw [show (eR (uI s q (upd (s.1 q) 0 (nI (ci + 1)))) (c, 0, p, nI o, v, ag)).2.2 64 1 = q from hQ.2.1, yg_9 hQ.1, xg_64_2, show (eR (uI s q (upd (s.1 q) 0 (nI (ci + 1)))) (c, 0, p, nI o, v, ag)).2.2 64 2 = q + 14 from hQ.2.2, ymg_0 hQ.1, eR_p hQ.1 (by omega), uI_ne _ _ _ _ (show ¬ q + 14 = q by omega), hm, ys_9 hQ.1, if_pos (mj_in_nI hi' (by decide)), nI_clamp (by omega), eR_p hQ.1 (by omega), wR_p hQ.1 (by omega), uI_ne _ _ _ _ (show ¬ q + 9 = q by omega)]
  rw [xg_64_0, xV_58, u_skip hTa hl, bN_s, xg_64_3, xg_64_0, xV_58, u_now hTa (by omega), bI_s, xs_65, if_pos (mj_in_nI hi' (by decide)), nI_clamp (by omega), eR_r (by decide), wR_r (by decide), uI_ne _ _ _ _ (show ¬ 65 = q + 9 by omega), uI_ne _ _ _ _ (show ¬ 65 = q by omega)]
  rw [xg_64_1, eR_2, hQb.2.1, yg_2 hQ.1, xg_64_0, xg_64_0, xV_58, u_now hTb (by omega), bI_s, xV_58, u_place hTb (by omega) (by omega), bI_s, ys_2 hQ.1, if_pos (mj_in_nI hi' (by decide)), nI_clamp (by omega), eR_p hQ.1 (by omega), wR_p hQ.1 (by omega), uI_ne _ _ _ _ (show ¬ q + 2 = 65 by omega), uI_ne _ _ _ _ (show ¬ q + 2 = q + 9 by omega), uI_ne _ _ _ _ (show ¬ q + 2 = q by omega)]
  change match (if (T (c + 1)).1 = 2 then _ else _ : (Nat × Nat) ⊕ (Nat × HD)) with
    | .inl e => hbOK q ci fm s T N (gR (mjW0 (eR (hd4 T s q ci fm c) (c + 1, 0, p, nI o, v, ag))) 64 8 0 fun v25 => rV (mjW0 (eR (hd4 T s q ci fm c) (c + 1, 0, p, nI o, v, ag))) v25 9 (bN (mjF (d + 4) 169 [.ref v25, .int 2] (mjW0 (eR (hd4 T s q ci fm c) (c + 1, 0, p, nI o, v, ag)))) fun hp26 => rV hp26 64 8 (bN (mjF (d + 4) 128 [.ref 64, .int (nI ci)] hp26) fun hp27 => k127 (mjF (d + 4)) 64 (nI ci) hp27))) e
    | .inr r => r.1 ≤ N ∧ ∃ s', (gR (mjW0 (eR (hd4 T s q ci fm c) (c + 1, 0, p, nI o, v, ag))) 64 8 0 fun v25 => rV (mjW0 (eR (hd4 T s q ci fm c) (c + 1, 0, p, nI o, v, ag))) v25 9 (bN (mjF (d + 4) 169 [.ref v25, .int 2] (mjW0 (eR (hd4 T s q ci fm c) (c + 1, 0, p, nI o, v, ag)))) fun hp26 => rV hp26 64 8 (bN (mjF (d + 4) 128 [.ref 64, .int (nI ci)] hp26) fun hp27 => k127 (mjF (d + 4)) 64 (nI ci) hp27))) = some (none, mjW0 (eR s' (r.1, 0, p, nI (o + 1), v, ag))) ∧ offR q ci fm s s' ∧ HF T q ci fm s' r.2 ∧ s'.1 q 0 = nI (ci + 1) ∧ HK q ci s s'
  rw [xg_64_0, xV_58]
  by_cases h2 : (T (c + 1)).1 = 2
  · have hl1 := lt_of hT (c := c + 1) (by omega) h2 (by decide)
    rw [if_pos h2, u_need hT4 (c := c + 1) (by omega) h2 (by decide), bN_s, xV_64]
    have z1 : (hd4 T s q ci fm c).1 (q + 1) ci = 0 := by rw [f4.2.2.2.2 (q + 1) (by omega) (by omega) (by omega) (by omega)]; exact hz1 hi'
    have h := x_names (d := d + 1) (p := p) (o := nI o) (v := v) (ag := ag) hQ4 hT4 hi' (c := c + 1 + 1) (by omega) z1
    rw [show c + 1 + 1 + 1 = c + 3 from rfl, show c + 1 + 1 = c + 2 from rfl] at h
    rw [show c + 1 + 1 = c + 2 from rfl]
    by_cases h91 : (T (c + 2)).1 = 91
    · rw [if_pos h91] at h ⊢
      cases hd : pNames T 6 0 (c + 3) with
      | inl e =>
        rw [hd] at h
        obtain ⟨he, s', h, o'⟩ := h
        obtain ⟨s'', k, o''⟩ := n_k127 (d := d) (p := (T e.2).2.1) (o := nI o) (v := v) (ag := ag) (hT4.off hQ.1 (o' 0)) hQ.1 (in_n0 he) hi'
        rw [h, bN_s, k]
        exact ⟨he, s'', _, _, _, rfl, (o4.tr (o' fm)).tr (o'' fm)⟩
      | inr a =>
        rw [hd] at h
        obtain ⟨ha, ha5, h⟩ := h
        have o5 : ∀ fm, offR q ci fm (hd4 T s q ci fm c) (uI (hd4 T s q ci fm c) (q + 1) (upd ((hd4 T s q ci fm c).1 (q + 1)) ci (nI a.1))) := fun fm => offR.w chR_n
        have o5' : offR q ci fm (hd4 T s q ci fm c) (uI (hd4 T s q ci fm c) (q + 1) (upd ((hd4 T s q ci fm c).1 (q + 1)) ci (nI a.1))) := offR.w chR_n
        have hT5 := hT4.off hQ.1 o5'
        have hQ5 := hQ4.off o5'
        rw [h, bN_s]
        have z3 : (uI (hd4 T s q ci fm c) (q + 1) (upd ((hd4 T s q ci fm c).1 (q + 1)) ci (nI a.1))).1 (q + 3) ci = 0 := by
          rw [uI_ne _ _ _ _ (by omega), f4.2.2.2.2 (q + 3) (by omega) (by omega) (by omega) (by omega)]; exact hz3 hi'
        have k := x_k127 (d := d) (fm := fm) (p := p) (v := v) (ag := ag) hT5 hQ5 hi' ho ha z3
        show match (match pAbove T a.2 with
          | .inl e => .inl e
          | .inr c2 => (match pWhere T c2 with
            | .inl e => .inl e
            | .inr w => if (T w.2).1 = 123 then .inr (w.2 + 1, c + 1, a.1, if (T a.2).1 = 6 then a.2 + 1 else 0, c2 + 1, w.1) else .inl (F2 T w.2)) : (Nat × Nat) ⊕ (Nat × HD)) with
          | .inl e => _
          | .inr r => _
        cases hA : pAbove T a.2 with
        | inl e =>
          rw [hA] at k
          obtain ⟨he, s', o', v', ag', k, r⟩ := k
          exact ⟨he, s', o', v', ag', k, (o4.tr o5').tr r⟩
        | inr c2 =>
          rw [hA] at k
          replace k : match pWhere T c2 with
            | .inl e => _
            | .inr w => _ := k
          show match (match pWhere T c2 with
            | .inl e => .inl e
            | .inr w => if (T w.2).1 = 123 then .inr (w.2 + 1, c + 1, a.1, if (T a.2).1 = 6 then a.2 + 1 else 0, c2 + 1, w.1) else .inl (F2 T w.2) : (Nat × Nat) ⊕ (Nat × HD)) with
            | .inl e => _
            | .inr r => _
          cases hw : pWhere T c2 with
          | inl e =>
            rw [hw] at k
            obtain ⟨he, s', o', v', ag', k, r⟩ := k
            exact ⟨he, s', o', v', ag', k, (o4.tr o5').tr r⟩
          | inr w =>
            rw [hw] at k
            by_cases h123 : (T w.2).1 = 123
            · obtain ⟨k1, s', k2, k3, k4, k5, k6, k7⟩ := k.1 h123
              simp only [if_pos h123]
              have g : ∀ h, ¬ h = 66 → ¬ h = 67 → ¬ h = q + 3 → ¬ h = q + 1 → s'.1 h = (hd4 T s q ci fm c).1 h := fun h a b e g => (k7 h a b e).trans (uI_ne _ _ _ _ g)
              have gg : ∀ h, ¬ h = 66 → ¬ h = 67 → ¬ h = q + 3 → ¬ h = q + 1 → ¬ h = q → ¬ h = q + 9 → ¬ h = 65 → ¬ h = q + 2 → s'.1 h = s.1 h := fun h a b e i a1 a2 a3 a4 => (g h a b e i).trans (f4.2.2.2.2 h a1 a2 a3 a4)
              refine ⟨k1, s', k2, (o4.tr o5').tr k3, ⟨?_, ?_, ?_, ?_, ?_, k4, k5⟩, ?_, ?_, ?_, ?_, ?_, ?_, ?_, ?_⟩
              · rw [g (q + 9) (by omega) (by omega) (by omega) (by omega)]; exact f4.2.1
              · rw [g 65 (by omega) (by omega) (by omega) (by omega)]; exact f4.2.2.1
              · rw [g (q + 2) (by omega) (by omega) (by omega) (by omega)]; exact f4.2.2.2.1
              · rw [k7 (q + 1) (by omega) (by omega) (by omega), uI_same]; exact if_pos rfl
              · rw [k6]
                by_cases h6 : (T a.2).1 = 6
                · simp only [if_pos h6]
                  rw [if_neg (by omega), Nat.add_sub_cancel]
                · simp only [if_neg h6]
                  rfl
              · rw [g q (by omega) (by omega) (by omega) (by omega)]; exact f4.1
              · exact gg (q + 14) (by omega) (by omega) (by omega) (by omega) (by omega) (by omega) (by omega) (by omega)
              · exact gg (q + 6) (by omega) (by omega) (by omega) (by omega) (by omega) (by omega) (by omega) (by omega)
              · exact gg (q + 7) (by omega) (by omega) (by omega) (by omega) (by omega) (by omega) (by omega) (by omega)
              · exact gg (q + 10) (by omega) (by omega) (by omega) (by omega) (by omega) (by omega) (by omega) (by omega)
              · exact gg (q + 18) (by omega) (by omega) (by omega) (by omega) (by omega) (by omega) (by omega) (by omega)
              · exact gg (q + 20) (by omega) (by omega) (by omega) (by omega) (by omega) (by omega) (by omega) (by omega)
              · exact gg (q + 16) (by omega) (by omega) (by omega) (by omega) (by omega) (by omega) (by omega) (by omega)
            · obtain ⟨he, s', o', v', ag', k, r⟩ := k.2 h123
              simp only [if_neg h123]
              exact ⟨he, s', o', v', ag', k, (o4.tr o5').tr r⟩
    · rw [if_neg h91] at h ⊢
      obtain ⟨he, s', h, o'⟩ := h
      obtain ⟨s'', k, o''⟩ := n_k127 (d := d) (p := (T (F2 T (c + 2)).2).2.1) (o := nI o) (v := v) (ag := ag) (hT4.off hQ.1 (o' 0)) hQ.1 (F2_n0 T (c + 2)) hi'
      rw [h, bN_s, k]
      exact ⟨he, s'', _, _, _, rfl, (o4.tr (o' fm)).tr (o'' fm)⟩
  · obtain ⟨s'', k, o''⟩ := n_k127 (d := d) (p := (T (F2 T (c + 1)).2).2.1) (o := nI o) (v := v) (ag := ag) hT4 hQ.1 (F2_n0 T (c + 1)) hi'
    rw [if_neg h2, u_need2 hT4 (c := c + 1) (by omega) h2, bN_s, xV_64, n_names hT4 (F2_n0 T _), bN_s, k]
    exact ⟨F2_in T _, s'', _, _, _, rfl, o4.tr (o'' fm)⟩
end MJ56
end
section
/-! ===== PARAMS ===== -/
def tyS (k : Int32) : Bool := decide (k = 10 ∨ k = 2)
/-- the number of a TYPE's KIND (-1: int), its token -/
def tyK (T : TT) (c kq : Nat) : Int32 := if (T c).1 = 10 then -1 else nI kq
def tyL (T : TT) (c : Nat) : List Nat := if (T c).1 = 10 then [] else [c]
/-- cursor, PARAMS (TYPE's token, NAME's token, KIND), KINDS' tokens -/
abbrev PP : Type := Nat × List (Nat × Nat × Int32) × List Nat
def pPars (T : TT) (kq : Nat) : Nat → PP → (Nat × Nat) ⊕ PP
  | 0, _ => .inl (0, 0)
  | f + 1, z => if tyS (T z.1).1 = true ∧ z.2.1.length = 6 then .inl (3, z.1) else (match pType T z.1 with
    | .inl e => .inl e
    | .inr a => if (T a).1 = 3 then (if (T (a + 1)).1 = 44 then pPars T kq f (a + 2, z.2.1 ++ [(z.1, a, tyK T z.1 (kq + z.2.2.length))], z.2.2 ++ tyL T z.1)
        else if (T (a + 1)).1 = 41 then .inr (a + 2, z.2.1 ++ [(z.1, a, tyK T z.1 (kq + z.2.2.length))], z.2.2 ++ tyL T z.1) else .inl (F2 T (a + 1))) else .inl (F2 T a))
/-! frames -/
def offG (A B : Nat → Nat → Prop) (s s' : mjSt3) : Prop := (∀ h j, ¬ A h j → s'.1 h j = s.1 h j) ∧ (∀ h j, ¬ B h j → s'.2.1 h j = s.2.1 h j) ∧ s'.2.2 = s.2.2
theorem offG.rf {A B : Nat → Nat → Prop} {s : mjSt3} : offG A B s s := ⟨fun _ _ _ => rfl, fun _ _ _ => rfl, rfl⟩
theorem offG.tr {A B : Nat → Nat → Prop} {a b c : mjSt3} (h : offG A B a b) (g : offG A B b c) : offG A B a c :=
  ⟨fun x y z => (g.1 x y z).trans (h.1 x y z), fun x y z => (g.2.1 x y z).trans (h.2.1 x y z), g.2.2.trans h.2.2⟩
theorem offG.mono {A B A' B' : Nat → Nat → Prop} {a b : mjSt3} (h : offG A B a b) (hA : ∀ x y, A x y → A' x y) (hB : ∀ x y, B x y → B' x y) : offG A' B' a b :=
  ⟨fun x y z => h.1 x y (fun q => z (hA x y q)), fun x y z => h.2.1 x y (fun q => z (hB x y q)), h.2.2⟩
theorem offG.w {A B : Nat → Nat → Prop} {h j : Nat} {s : mjSt3} {v : Int32} (hc : A h j) : offG A B s (uI s h (upd (s.1 h) j v)) := by
  refine ⟨fun h' j' n => ?_, fun _ _ _ => rfl, rfl⟩
  by_cases e : h' = h
  · subst e
    rw [uI_same]
    exact if_neg (fun e => n (by rw [e]; exact hc))
  · rw [uI_ne _ _ _ _ e]
theorem offG.wl {A B : Nat → Nat → Prop} {h j : Nat} {s : mjSt3} {v : Int64} (hc : B h j) : offG A B s (uL s h (vp_updL (s.2.1 h) j v)) := by
  refine ⟨fun _ _ _ => rfl, fun h' j' n => ?_, rfl⟩
  by_cases e : h' = h
  · subst e
    rw [uL_same]
    exact if_neg (fun e => n (by rw [e]; exact hc))
  · rw [uL_ne _ _ _ _ e]
/-- what may change while MEMBER m of CLASS ci is read -/
def chM (q ci m h j : Nat) : Prop := (h = q + 14 ∧ j = 0) ∨ ((h = q + 6 ∨ h = q + 7 ∨ h = q + 10) ∧ j = ci) ∨ ((h = 68 ∨ h = 69 ∨ h = 70 ∨ h = q + 16 ∨ h = q + 18 ∨ h = q + 19 ∨ h = q + 20 ∨ h = q + 22) ∧ j = m)
def offM (q ci m : Nat) : mjSt3 → mjSt3 → Prop := offG (chM q ci m) (fun h j => h = q + 15 ∧ j = m)
theorem offM.R {q ci m fm : Nat} {s s' : mjSt3} (h : offM q ci m s s') (hf : fm ≤ m) : offR q ci fm s s' := by
  refine ⟨fun x y n => h.1 x y (fun c => n ?_), fun x y n => h.2.1 x y (fun c => n ⟨c.1, by omega⟩), h.2.2⟩
  rcases c with c | c | c
  · exact Or.inr (Or.inl c)
  · exact Or.inr (Or.inr (Or.inl ⟨by omega, c.2⟩))
  · exact Or.inr (Or.inr (Or.inr ⟨by omega, by omega⟩))
theorem TH.offM {T : TT} {N q ci m : Nat} {s s' : mjSt3} (h : TH T N s) (hq : isP q) (o : offM q ci m s s') : TH T N s' := h.off hq (o.R (Nat.zero_le m))
theorem RQ.offM {q ci m : Nat} {s s' : mjSt3} (h : RQ q s) (o : offM q ci m s s') : RQ q s' := h.off (o.R (Nat.zero_le m))
def mbOK (q ci m : Nat) (s : mjSt3) (T : TT) (N : Nat) (u : mjU) (e : Nat × Nat) : Prop := (e.1 = 1 ∨ e.1 = 2 ∨ e.1 = 3) ∧ ∃ (s' : mjSt3) (o' v' : Int32) (ag' : Nat → Int32), u = some (none, mjW0 (eR s' (N, nI e.1, (T e.2).2.1, o', v', ag'))) ∧ offM q ci m s s'
section MJ57
variable {T : TT} {d N c q ci m : Nat} {s : mjSt3} {f p o v : Int32} {ag : Nat → Int32}
theorem u_tyS (hT : TH T N s) (hc : c ≤ N) : mjF (d + 2) 135 [.ref 64] (mjW0 (eR s (c, f, p, o, v, ag))) = some (some (.int (if tyS (T c).1 = true then 1 else 0)), mjW0 (eR s (c, f, p, o, v, ag))) := by
  rw [e_135]
  unfold f_135 b_135_0 b_135_23 tyS
  rw [dec_1, xg_64_0, xV_58, u_is hT hc, bI_s, i01, xg_64_0, xV_58, u_is hT hc, bI_s, i01]
  by_cases h : (T c).1 = 10
  · rw [if_pos h, if_pos (Or.inl h)]
  · rw [if_neg h]
    by_cases g : (T c).1 = 2
    · rw [if_pos g, if_pos (Or.inr g)]
    · rw [if_neg g, if_neg (fun z => z.elim h g)]
theorem L137_S (R : mjR) (n : Nat) (a : Nat) (b c e : Int32) (hp : mjH) : L_137_26 R (n + 1) a b c e hp = b_137_26 R (L_137_26 R n) a b c e hp := rfl
theorem n_pars (hT : TH T N s) (hf : ¬ f = 0) (n : Nat) (i k : Int32) : L_137_26 (mjF (d + 3)) (n + 1) 64 i 0 k (mjW0 (eR s (N, f, p, o, v, ag))) = some (none, mjW0 (eR s (N, f, p, o - 1, v, ag))) := by
  rw [L137_S]
  unfold b_137_26 b_137_114
  rw [if_pos rfl, ite_self, xV_64, u_closeN hT hf, bN_s]
/-- the base with that many PARAMS -/
def bsP (s : mjSt3) (q m k : Nat) : mjSt3 := uI s (q + 20) (upd (s.1 (q + 20)) m (nI k))
theorem bsP_0 (h : s.1 (q + 20) m = 0) : bsP s q m 0 = s := by
  unfold bsP
  rw [show nI 0 = (0 : Int32) from rfl, upd_id (s.1 (q + 20)) h, uI_self]
theorem bsP_w (k : Nat) (j : Nat) : uI (bsP s q m k) (q + 20) (upd ((bsP s q m k).1 (q + 20)) m (nI j)) = bsP s q m j := by
  unfold bsP
  rw [uI_same, upd_upd, uI_uI]
theorem bsP_off (k : Nat) : offM q ci m s (bsP s q m k) := offG.w (Or.inr (Or.inr ⟨by omega, rfl⟩))
theorem min7 {k : Nat} (hk : k ≤ 6) : (if nI (k + 1) ≤ (6 : Int32) then nI (k + 1) else 6) = nI (min (k + 1) 6) := by
  by_cases h : k + 1 ≤ 6
  · rw [if_pos (show nI (k + 1) ≤ (6 : Int32) from nI_le (b := 6) h (by omega)), Nat.min_eq_left h]
  · have : k = 6 := by omega
    subst this
    rfl
/-- behind a TYPE of PARAMS, in a bad state -/
theorem n_57 (hT : TH T N s) (hQ : RQ q s) (hm : m < 385) {k : Nat} (hk : k ≤ 6) (hf : ¬ f = 0) (n : Nat) : (gR (mjW0 (eR (bsP s q m k) (N, f, p, o, v, ag))) 64 8 0 fun v2 => rV (mjW0 (eR (bsP s q m k) (N, f, p, o, v, ag))) v2 9 (bN (mjF (d + 3) 169 [.ref v2, .int 3] (mjW0 (eR (bsP s q m k) (N, f, p, o, v, ag)))) fun hp3 => gR hp3 64 8 2 fun v4 => gR hp3 v4 6 6 fun v5 => bI (mjF (d + 3) 355 [.int (nI k + 1), .int 6] hp3) fun v6 hp7 => sI hp7 v5 (nI m) v6 fun hp8 => gR hp8 64 8 0 fun v9 => rV hp8 v9 9 (bI (mjF (d + 3) 164 [.ref v9, .int 44] hp8) fun v10 hp11 => if v10 = 0 then b_137_108 (mjF (d + 3)) (L_137_26 (mjF (d + 3)) (n + 1)) 64 (nI m) v10 (nI k) hp11 else gR hp11 64 8 0 fun v12 => rV hp11 v12 9 (bN (mjF (d + 3) 166 [.ref v12] hp11) fun hp13 => b_137_108 (mjF (d + 3)) (L_137_26 (mjF (d + 3)) (n + 1)) 64 (nI m) v10 (nI k) hp13)))) = some (none, mjW0 (eR (bsP s q m (min (k + 1) 6)) (N, f, p, o - 1, v, ag))) := by
  have hT1 := hT.offM hQ.1 (bsP_off (ci := 0) (s := s) (q := q) (m := m) k)
  have hQ1 := hQ.offM (bsP_off (ci := 0) (s := s) (q := q) (m := m) k)
  have hT2 := hT.offM hQ.1 (bsP_off (ci := 0) (s := s) (q := q) (m := m) (min (k + 1) 6))
  rw [xg_64_0, xV_58, u_needN hT1 hf, bN_s, xg_64_2, eR_2, hQ1.2.2, ymg_6 hQ.1, q_min, bI_s, nI_1, min7 hk, ys_20 hQ.1, if_pos (mj_in_nI hm (by decide)), nI_clamp (by omega), eR_p hQ.1 (by omega), wR_p hQ.1 (by omega), bsP_w, xg_64_0, xV_58, u_is hT2 (Nat.le_refl N), bI_s, i01, if_neg (kN hT (by decide)), if_neg (kN hT (by decide))]
  unfold b_137_108
  rw [n_pars hT2 hf]
def psOK (q ci m : Nat) (s : mjSt3) (T : TT) (N : Nat) (u : mjU) (p : Int32) (o : Nat) (v : Int32) (ag : Nat → Int32) (r : (Nat × Nat) ⊕ PP) : Prop := match r with
  | .inl e => mbOK q ci m s T N u e
  | .inr y => y.1 ≤ N ∧ y.2.1.length ≤ 6 ∧ u = some (none, mjW0 (eR (bsP s q m y.2.1.length) (y.1, 0, p, nI o, v, ag)))
theorem x_parsL (hT : TH T N s) (hQ : RQ q s) (hm : m < 385) {o kq : Nat} : ∀ (f n : Nat) (z : PP), f + z.2.1.length = 7 → z.2.1.length ≤ 6 → f + 1 < n → z.1 ≤ N → psOK q ci m s T N (L_137_26 (mjF (d + 3)) n 64 (nI m) 1 (nI z.2.1.length) (mjW0 (eR (bsP s q m z.2.1.length) (z.1, 0, p, nI (o + 1), v, ag)))) p o v ag (pPars T kq f z)
  | 0, n, z, hf, h6, hn, hz => by omega
  | f + 1, n, z, hf, h6, hn, hz => by
    obtain ⟨n, rfl⟩ : ∃ x, n = x + 2 := ⟨n - 2, by omega⟩
    have hT1 := hT.offM hQ.1 (bsP_off (ci := 0) (s := s) (q := q) (m := m) z.2.1.length)
    have hQ1 := hQ.offM (bsP_off (ci := 0) (s := s) (q := q) (m := m) z.2.1.length)
    have hT2 := hT.offM hQ.1 (bsP_off (ci := 0) (s := s) (q := q) (m := m) (min (z.2.1.length + 1) 6))
    rw [L137_S]
    unfold b_137_26 pPars
    rw [if_neg (show ¬ (6 : Int32) < nI z.2.1.length from nI_nlt (a := 6) h6 (by omega)), if_neg (show ¬ (1 : Int32) = 0 by decide)]
    have rest : ¬ (tyS (T z.1).1 = true ∧ z.2.1.length = 6) → psOK q ci m s T N (b_137_57 (mjF (d + 3)) (L_137_26 (mjF (d + 3)) (n + 1)) 64 (nI m) (nI z.2.1.length) (mjW0 (eR (bsP s q m z.2.1.length) (z.1, 0, p, nI (o + 1), v, ag)))) p o v ag (match pType T z.1 with
        | .inl e => .inl e
        | .inr a => if (T a).1 = 3 then (if (T (a + 1)).1 = 44 then pPars T kq f (a + 2, z.2.1 ++ [(z.1, a, tyK T z.1 (kq + z.2.2.length))], z.2.2 ++ tyL T z.1)
            else if (T (a + 1)).1 = 41 then .inr (a + 2, z.2.1 ++ [(z.1, a, tyK T z.1 (kq + z.2.2.length))], z.2.2 ++ tyL T z.1) else .inl (F2 T (a + 1))) else .inl (F2 T a)) := by
      intro hno
      unfold b_137_57
      rw [xV_64]
      have h := x_type (d := d) (p := p) (o := nI (o + 1)) (v := v) (ag := ag) hT1 hz
      cases hd : pType T z.1 with
      | inl e =>
        rw [hd] at h
        obtain ⟨he, h⟩ := h
        rw [h, bN_s, n_57 hT hQ hm h6 (in_n0 he)]
        exact ⟨he, _, _, _, _, rfl, bsP_off _⟩
      | inr a =>
        have hty : tyS (T z.1).1 = true := by
          unfold tyS
          unfold pType at hd
          by_cases h10 : (T z.1).1 = 10
          · exact decide_eq_true (Or.inl h10)
          · rw [if_neg h10] at hd
            unfold pKind at hd
            by_cases h2 : (T z.1).1 = 2
            · exact decide_eq_true (Or.inr h2)
            · rw [if_neg h2] at hd; cases hd
        have l5 : z.2.1.length < 6 := by
          have : ¬ z.2.1.length = 6 := fun e => hno ⟨hty, e⟩
          omega
        have emin : min (z.2.1.length + 1) 6 = z.2.1.length + 1 := Nat.min_eq_left (by omega)
        rw [hd] at h
        obtain ⟨ha, h⟩ := h
        rw [h, bN_s]
        by_cases h3 : (T a).1 = 3
        · have hl := lt_of hT ha h3 (by decide)
          rw [xg_64_0, xV_58, u_need hT1 ha h3 (by decide), bN_s, xg_64_2, eR_2, hQ1.2.2, ymg_6 hQ.1, q_min, bI_s, nI_1, min7 h6, ys_20 hQ.1, if_pos (mj_in_nI hm (by decide)), nI_clamp (by omega), eR_p hQ.1 (by omega), wR_p hQ.1 (by omega), bsP_w, xg_64_0, xV_58, u_is hT2 (c := a + 1) (by omega), bI_s, i01]
          simp only [if_pos h3]
          have el : (z.2.1 ++ [(z.1, a, tyK T z.1 (kq + z.2.2.length))]).length = z.2.1.length + 1 := by rw [List.length_append]; rfl
          by_cases h44 : (T (a + 1)).1 = 44
          · have hl1 := lt_of hT (c := a + 1) (by omega) h44 (by decide)
            rw [if_pos h44, xg_64_0, xV_58, u_skip hT2 hl1, bN_s, if_pos h44]
            simp only [if_pos h44]
            unfold b_137_108
            rw [nI_1, emin]
            have r := x_parsL hT hQ hm (o := o) (kq := kq) f (n + 1) (a + 2, z.2.1 ++ [(z.1, a, tyK T z.1 (kq + z.2.2.length))], z.2.2 ++ tyL T z.1) (by rw [el]; omega) (by rw [el]; omega) (by omega) (by show a + 2 ≤ N; omega)
            rw [el] at r
            exact r
          · rw [if_neg h44, if_neg h44]
            simp only [if_neg h44]
            unfold b_137_108
            rw [nI_1, emin, L137_S]
            rw [emin] at hT2
            unfold b_137_26 b_137_114
            rw [if_pos rfl, ite_self, xV_64]
            by_cases h41 : (T (a + 1)).1 = 41
            · have hl1 := lt_of hT (c := a + 1) (by omega) h41 (by decide)
              rw [u_close hT2 (by omega) h41 (by decide), bN_s]
              simp only [if_pos h41]
              refine ⟨by show a + 2 ≤ N; omega, by rw [el]; omega, ?_⟩
              rw [el]
            · rw [u_close2 hT2 (by omega) h41, bN_s]
              simp only [if_neg h41]
              exact ⟨F2_in T _, _, _, _, _, rfl, bsP_off _⟩
        · rw [xg_64_0, xV_58, u_need2 hT1 ha h3, bN_s]
          have hQ2 := hQ.offM (bsP_off (ci := 0) (s := s) (q := q) (m := m) (min (z.2.1.length + 1) 6))
          rw [xg_64_2, eR_2, hQ1.2.2, ymg_6 hQ.1, q_min, bI_s, nI_1, min7 h6, ys_20 hQ.1, if_pos (mj_in_nI hm (by decide)), nI_clamp (by omega), eR_p hQ.1 (by omega), wR_p hQ.1 (by omega), bsP_w, xg_64_0, xV_58, u_is hT2 (Nat.le_refl N), bI_s, i01, if_neg (kN hT (by decide)), if_neg (kN hT (by decide))]
          unfold b_137_108
          rw [n_pars hT2 (F2_n0 T _)]
          simp only [if_neg h3]
          exact ⟨F2_in T _, _, _, _, _, rfl, bsP_off _⟩
    by_cases e6 : z.2.1.length = 6
    · rw [if_pos (show nI z.2.1.length = 6 by rw [e6]; rfl), xV_64, u_tyS hT1 hz, bI_s, i01]
      by_cases hty : tyS (T z.1).1 = true
      · have h1 : ¬ (T z.1).1 = 1 := fun e => by rw [e] at hty; exact absurd hty (by decide)
        rw [if_pos hty, if_pos ⟨hty, e6⟩, xg_64_0, xV_58, u_ref3 hT1 hz h1, bN_s]
        unfold b_137_57
        rw [xV_64, x_typeN hT1 (by decide), bN_s, n_57 hT hQ hm h6 (by decide)]
        exact ⟨Or.inr (Or.inr rfl), _, _, _, _, rfl, bsP_off _⟩
      · rw [if_neg hty, if_neg (fun e => hty e.1)]
        exact rest (fun e => hty e.1)
    · rw [if_neg (show ¬ nI z.2.1.length = 6 from fun e => e6 ((nI_eq (a := z.2.1.length) (b := 6) (by omega) (by omega)).mp e)), if_neg (fun e => e6 e.2)]
      exact rest (fun e => e6 e.2)
/-- readParams, at its ( -/
def pParams (T : TT) (kq c : Nat) : (Nat × Nat) ⊕ PP := if (T c).1 = 40 then (if (T (c + 1)).1 = 41 then .inr (c + 2, [], []) else pPars T kq 7 (c + 1, [], [])) else .inl (F2 T c)
theorem x_params (hT : TH T N s) (hQ : RQ q s) (hm : m < 385) {o kq : Nat} (ho : o < 12) (hc : c ≤ N) (hz : s.1 (q + 20) m = 0) : psOK q ci m s T N (mjF (d + 4) 137 [.ref 64, .int (nI m)] (mjW0 (eR s (c, 0, p, nI o, v, ag)))) p o v ag (pParams T kq c) := by
  rw [e_137]
  unfold f_137 b_137_0 b_137_23 pParams
  rw [xV_64, show mjN = 99999998 + 2 from rfl]
  by_cases h40 : (T c).1 = 40
  · have hl := lt_of hT hc h40 (by decide)
    rw [if_pos h40, u_open hT hc h40 (by decide) ho, bN_s, xg_64_0, xV_58, u_is hT (c := c + 1) hl, bI_s, i01]
    by_cases h41 : (T (c + 1)).1 = 41
    · have hl1 := lt_of hT (c := c + 1) (by omega) h41 (by decide)
      rw [if_pos h41, if_pos h41, L137_S]
      unfold b_137_26 b_137_114
      rw [if_pos rfl, ite_self, xV_64, u_close hT hl h41 (by decide), bN_s]
      refine ⟨by show c + 2 ≤ N; omega, by show 0 ≤ 6; omega, ?_⟩
      rw [show ([] : List (Nat × Nat × Int32)).length = 0 from rfl, bsP_0 hz]
    · rw [if_neg h41, if_neg h41]
      have r := x_parsL (d := d) (ci := ci) (p := p) (v := v) (ag := ag) hT hQ hm (o := o) (kq := kq) 7 (99999998 + 2) (c + 1, [], []) (by show 7 + 0 = 7; omega) (by show 0 ≤ 6; omega) (by omega) hl
      rw [show ([] : List (Nat × Nat × Int32)).length = 0 from rfl, bsP_0 hz] at r
      exact r
  · rw [if_neg h40, u_open2 hT hc h40, bN_s, xg_64_0, xV_58, u_is hT (Nat.le_refl N), bI_s, i01, if_neg (kN hT (by decide)), L137_S]
    unfold b_137_26
    rw [if_neg (show ¬ (6 : Int32) < 0 by decide), if_neg (show ¬ (1 : Int32) = 0 by decide), if_neg (show ¬ (0 : Int32) = 6 by decide)]
    unfold b_137_57
    have k := n_57 (d := d) (p := (T (F2 T c).2).2.1) (o := nI o) (v := v) (ag := ag) hT hQ hm (k := 0) (by omega) (F2_n0 T c) 99999998
    rw [bsP_0 hz] at k
    rw [xV_64, x_typeN hT (F2_n0 T _), bN_s]
    exact ⟨F2_in T _, _, _, _, _, k, bsP_off _⟩
end MJ57
end
section
/-! ===== MEMBERS ===== -/
/-- TYPE's token, NAME's token, a METHOD?, PARAMS, BLOCK's token, VARIABLES, first order, KIND -/
abbrev MD : Type := Nat × Nat × Bool × List (Nat × Nat × Int32) × Nat × Nat × Nat × Int32
/-- cursor, the MEMBER, KINDS' tokens, orders, calls' arguments -/
abbrev PR : Type := Nat × MD × List Nat × List Row × List (Nat × Nat)
def oOver : Row := (28, -1, 0, 0, 0)
def pMem (T : TT) (M k c kq i0 : Nat) : (Nat × Nat) ⊕ PR :=
  if k = 24 then .inl (3, c) else (match pType T c with
  | .inl e => .inl e
  | .inr c1 => if (T c1).1 = 3 then (if (T (c1 + 1)).1 = 59 then .inr (c1 + 2, (c, c1, false, [], 0, 0, 0, tyK T c kq), tyL T c, [], [])
      else (match pParams T (kq + (tyL T c).length) (c1 + 1) with
        | .inl e => .inl e
        | .inr y => (match prS T M 30 0 1 y.1 y.2.1.length (kq + (tyL T c).length + y.2.2.length) i0 with
          | .inl e => .inl e
          | .inr z => .inr (z.1, (c, c1, true, y.2.1, y.1, z.2.1, i0, tyK T c kq), tyL T c ++ y.2.2 ++ z.2.2.1, z.2.2.2.1 ++ [oOver], z.2.2.2.2)))) else .inl (F2 T c1))
/-- a MEMBER's rows -/
def MF (q ci m num : Nat) (s : mjSt3) (md : MD) : Prop := s.1 (q + 16) m = nI ci ∧ s.1 68 m = nI md.1 ∧ s.1 69 m = nI md.2.1 ∧ s.2.1 (q + 15) m = s.2.1 62 md.2.1 ∧ s.1 (q + 18) m = (if md.2.2.1 = true then 1 else 0) ∧ s.1 (q + 19) m = nI num ∧ s.1 (q + 20) m = nI md.2.2.2.1.length ∧ (md.2.2.1 = true → s.1 70 m = nI md.2.2.2.2.1 ∧ s.1 (q + 22) m = nI md.2.2.2.2.2.1)
noncomputable def k136 (R : mjR) (l0 : Nat) (l1 v2 : Int32) (hp34 : mjH) : mjU := gR hp34 l0 8 0 (fun v35 => rV hp34 v35 9 (bI (R 164 [.ref v35, .int (59 : Int32)] hp34) (fun v36 hp37 => (if v36 = 0 then gR hp37 l0 8 2 (fun v38 => gR hp37 v38 6 4 (fun v39 => sB hp37 v39 v2 (1 : Int32) (fun hp40 => gR hp40 l0 8 2 (fun v41 => gR hp40 v41 6 5 (fun v42 => gR hp40 l0 8 1 (fun v43 => gR hp40 v43 7 6 (fun v44 => aI hp40 v44 l1 (fun v45 => sI hp40 v42 v2 v45 (fun hp46 => gR hp46 l0 8 1 (fun v47 => gR hp46 v47 7 6 (fun v48 => aI hp46 v48 l1 (fun v49 => sI hp46 v48 l1 (v49 + (1 : Int32)) (fun hp50 => rV hp50 l0 8 (bN (R 137 [.ref l0, .int v2] hp50) (fun  hp51 => gR hp51 l0 8 2 (fun v52 => gR hp51 v52 6 6 (fun v53 => aI hp51 v53 v2 (fun v54 => pI hp51 l0 8 10 v54 (fun hp55 => gR hp55 l0 8 8 (fun v56 => gR hp55 l0 8 0 (fun v57 => rV hp55 v57 9 (bI (R 167 [.ref v57] hp55) (fun v58 hp59 => sI hp59 v56 v2 v58 (fun hp60 => rV hp60 l0 8 (bN (R 139 [.ref l0] hp60) (fun  hp61 => gR hp61 l0 8 2 (fun v62 => gR hp61 v62 6 8 (fun v63 => gI hp61 l0 8 10 (fun v64 => sI hp61 v63 v2 v64 (fun hp65 => some (none, hp65))))))))))))))))))))))))))))))) else gR hp37 l0 8 0 (fun v66 => rV hp37 v66 9 (bN (R 166 [.ref v66] hp37) (fun  hp67 => gR hp67 l0 8 2 (fun v68 => gR hp67 v68 6 5 (fun v69 => gR hp67 l0 8 1 (fun v70 => gR hp67 v70 7 7 (fun v71 => aI hp67 v71 l1 (fun v72 => sI hp67 v69 v2 v72 (fun hp73 => gR hp73 l0 8 1 (fun v74 => gR hp73 v74 7 7 (fun v75 => aI hp73 v75 l1 (fun v76 => sI hp73 v75 l1 (v76 + (1 : Int32)) (fun hp77 => some (none, hp77))))))))))))))))))
section MJ58
variable {T : TT} {d N c q ci m : Nat} {s : mjSt3} {f p o v : Int32} {ag : Nat → Int32}
theorem n_params (hT : TH T N s) (hQ : RQ q s) (hm : m < 385) (hf : ¬ f = 0) (hz : s.1 (q + 20) m = 0) : mjF (d + 4) 137 [.ref 64, .int (nI m)] (mjW0 (eR s (N, f, p, o, v, ag))) = some (none, mjW0 (eR (bsP s q m 1) (N, f, p, o - 1, v, ag))) := by
  rw [e_137]
  unfold f_137 b_137_0 b_137_23
  rw [xV_64, show mjN = 99999998 + 2 from rfl, u_openN hT hf (by decide), bN_s, xg_64_0, xV_58, u_is hT (Nat.le_refl N), bI_s, i01, if_neg (kN hT (by decide)), L137_S]
  unfold b_137_26
  rw [if_neg (show ¬ (6 : Int32) < 0 by decide), if_neg (show ¬ (1 : Int32) = 0 by decide), if_neg (show ¬ (0 : Int32) = 6 by decide)]
  unfold b_137_57
  have k := n_57 (d := d) (f := f) (p := p) (o := o) (v := v) (ag := ag) hT hQ hm (k := 0) (by omega) hf 99999998
  rw [bsP_0 hz] at k
  rw [xV_64, x_typeN hT hf, bN_s]
  exact k
theorem chM_m {q ci m h : Nat} (hh : h = 68 ∨ h = 69 ∨ h = 70 ∨ h = q + 16 ∨ h = q + 18 ∨ h = q + 19 ∨ h = q + 20 ∨ h = q + 22) : chM q ci m h m := Or.inr (Or.inr ⟨hh, rfl⟩)
theorem chM_c {q ci m h : Nat} (hh : h = q + 6 ∨ h = q + 7 ∨ h = q + 10) : chM q ci m h ci := Or.inr (Or.inl ⟨hh, rfl⟩)
/-- the base of a METHOD ahead of its PARAMS -/
def meS (s : mjSt3) (q ci m : Nat) : mjSt3 := uI (uI (uI s (q + 18) (upd (s.1 (q + 18)) m 1)) (q + 19) (upd (s.1 (q + 19)) m (s.1 (q + 6) ci))) (q + 6) (upd (s.1 (q + 6)) ci (s.1 (q + 6) ci + 1))
theorem meS_at : (meS s q ci m).1 (q + 18) = upd (s.1 (q + 18)) m 1 ∧ (meS s q ci m).1 (q + 19) = upd (s.1 (q + 19)) m (s.1 (q + 6) ci) ∧ (meS s q ci m).1 (q + 6) = upd (s.1 (q + 6)) ci (s.1 (q + 6) ci + 1) ∧ (∀ h, ¬ h = q + 18 → ¬ h = q + 19 → ¬ h = q + 6 → (meS s q ci m).1 h = s.1 h) ∧ (meS s q ci m).2 = s.2 := by
  unfold meS
  refine ⟨?_, ?_, ?_, fun h a b e => ?_, rfl⟩
  · rw [uI_ne _ _ _ _ (by omega), uI_ne _ _ _ _ (by omega), uI_same]
  · rw [uI_ne _ _ _ _ (by omega), uI_same]
  · rw [uI_same]
  · rw [uI_ne _ _ _ _ e, uI_ne _ _ _ _ b, uI_ne _ _ _ _ a]
theorem offG_of {A B : Nat → Nat → Prop} {s s' : mjSt3} (h1 : ∀ h j, ¬ A h j → s'.1 h j = s.1 h j) (h2 : s'.2 = s.2) : offG A B s s' := ⟨h1, fun _ _ _ => by rw [h2], by rw [h2]⟩
theorem meS_off : offM q ci m s (meS s q ci m) := by
  have f := meS_at (s := s) (q := q) (ci := ci) (m := m)
  refine offG_of (fun h j n => ?_) f.2.2.2.2
  by_cases e1 : h = q + 18
  · rw [e1, f.1]; exact if_neg (fun e => n (by rw [e, e1]; exact chM_m (by omega)))
  by_cases e2 : h = q + 19
  · rw [e2, f.2.1]; exact if_neg (fun e => n (by rw [e, e2]; exact chM_m (by omega)))
  by_cases e3 : h = q + 6
  · rw [e3, f.2.2.1]; exact if_neg (fun e => n (by rw [e, e3]; exact chM_c (by omega)))
  rw [f.2.2.2.1 h e1 e2 e3]
theorem nar1 : vp_nar .boolean 1 = 1 := by rfl
/-- to ahead of PARAMS -/
theorem k136_me (hT : TH T N s) (hQ : RQ q s) (hi : ci < 16) (hm : m < 385) (hc : c ≤ N) (h59 : ¬ (T c).1 = 59) : k136 (mjF (d + 4)) 64 (nI ci) (nI m) (mjW0 (eR s (c, f, p, o, v, ag))) = (bN (mjF (d + 4) 137 [.ref 64, .int (nI m)] (mjW0 (eR (meS s q ci m) (c, f, p, o, v, ag)))) fun hp51 => gR hp51 64 8 2 (fun v52 => gR hp51 v52 6 6 (fun v53 => aI hp51 v53 (nI m) (fun v54 => pI hp51 64 8 10 v54 (fun hp55 => gR hp55 64 8 8 (fun v56 => gR hp55 64 8 0 (fun v57 => rV hp55 v57 9 (bI (mjF (d + 4) 167 [.ref v57] hp55) (fun v58 hp59 => sI hp59 v56 (nI m) v58 (fun hp60 => rV hp60 64 8 (bN (mjF (d + 4) 139 [.ref 64] hp60) (fun  hp61 => gR hp61 64 8 2 (fun v62 => gR hp61 v62 6 8 (fun v63 => gI hp61 64 8 10 (fun v64 => sI hp61 v63 (nI m) v64 (fun hp65 => some (none, hp65))))))))))))))))) := by
  have hq : q = 2 ∨ q = 30 := hQ.1
  have q1 : s.2.2 64 1 = q := hQ.2.1
  have q2 : s.2.2 64 2 = q + 14 := hQ.2.2
  unfold k136
  rw [xg_64_0, xV_58, u_is hT hc, bI_s, i01, if_neg h59, xg_64_2, eR_2, q2, ymg_4 hQ.1, ys_18 hQ.1, if_pos (mj_in_nI hm (by decide)), nI_clamp (by omega), nar1, eR_p hQ.1 (by omega), wR_p hQ.1 (by omega), xg_64_2, eR_2, uI_l, q2, ymg_5 hQ.1, xg_64_1, eR_2, uI_l, q1, yg_6 hQ.1, ya_6 hQ.1, if_pos (mj_in_nI hi (by decide)), nI_clamp (by omega), eR_p hQ.1 (by omega), uI_ne _ _ _ _ (show ¬ q + 6 = q + 18 by omega), ys_19 hQ.1, if_pos (mj_in_nI hm (by decide)), nI_clamp (by omega), eR_p hQ.1 (by omega), uI_ne _ _ _ _ (show ¬ q + 19 = q + 18 by omega), wR_p hQ.1 (by omega), xg_64_1, eR_2, uI_l, uI_l, q1, yg_6 hQ.1, ya_6 hQ.1, if_pos (mj_in_nI hi (by decide)), nI_clamp (by omega), eR_p hQ.1 (by omega), uI_ne _ _ _ _ (show ¬ q + 6 = q + 19 by omega), uI_ne _ _ _ _ (show ¬ q + 6 = q + 18 by omega), ys_6 hQ.1, if_pos (mj_in_nI hi (by decide)), nI_clamp (by omega), eR_p hQ.1 (by omega), uI_ne _ _ _ _ (show ¬ q + 6 = q + 19 by omega), uI_ne _ _ _ _ (show ¬ q + 6 = q + 18 by omega), wR_p hQ.1 (by omega), xV_64]
  rfl
/-- from behind PARAMS on, with k of them -/
theorem k136_b (hT : TH T N s) (hQ : RQ q s) (hm : m < 385) (hc : c ≤ N) {w : Int32} (hk : s.1 (q + 20) m = w) : (gR (mjW0 (eR s (c, f, p, o, v, ag))) 64 8 2 (fun v52 => gR (mjW0 (eR s (c, f, p, o, v, ag))) v52 6 6 (fun v53 => aI (mjW0 (eR s (c, f, p, o, v, ag))) v53 (nI m) (fun v54 => pI (mjW0 (eR s (c, f, p, o, v, ag))) 64 8 10 v54 (fun hp55 => gR hp55 64 8 8 (fun v56 => gR hp55 64 8 0 (fun v57 => rV hp55 v57 9 (bI (mjF (d + 4) 167 [.ref v57] hp55) (fun v58 hp59 => sI hp59 v56 (nI m) v58 (fun hp60 => rV hp60 64 8 (bN (mjF (d + 4) 139 [.ref 64] hp60) (fun  hp61 => gR hp61 64 8 2 (fun v62 => gR hp61 v62 6 8 (fun v63 => gI hp61 64 8 10 (fun v64 => sI hp61 v63 (nI m) v64 (fun hp65 => some (none, hp65))))))))))))))))) = (bN (mjF (d + 4) 139 [.ref 64] (mjW0 (eR (uI s 70 (upd (s.1 70) m (nI c))) (c, f, p, o, w, ag)))) (fun  hp61 => gR hp61 64 8 2 (fun v62 => gR hp61 v62 6 8 (fun v63 => gI hp61 64 8 10 (fun v64 => sI hp61 v63 (nI m) v64 (fun hp65 => some (none, hp65))))))) := by
  rw [xg_64_2, eR_2, hQ.2.2, ymg_6 hQ.1, ya_20 hQ.1, if_pos (mj_in_nI hm (by decide)), nI_clamp (by omega), eR_p hQ.1 (by omega), hk, xp_64_10, wR_v, xg_64_8, xg_64_0, xV_58]
  show bI (mjF (d + 4) 167 [.ref 58] (mjW0 (eR s (c, f, p, o, w, ag)))) _ = _
  rw [u_now hT hc, bI_s, xs_70, if_pos (mj_in_nI hm (by decide)), nI_clamp (by omega), eR_r (by decide), wR_r (by decide), xV_64]
/-- the VARIABLES' number is written -/
theorem k136_e (hQ : RQ q s) (hm : m < 385) : (gR (mjW0 (eR s (c, f, p, o, v, ag))) 64 8 2 (fun v62 => gR (mjW0 (eR s (c, f, p, o, v, ag))) v62 6 8 (fun v63 => gI (mjW0 (eR s (c, f, p, o, v, ag))) 64 8 10 (fun v64 => sI (mjW0 (eR s (c, f, p, o, v, ag))) v63 (nI m) v64 (fun hp65 => (some (none, hp65) : mjU)))))) = some (none, mjW0 (eR (uI s (q + 22) (upd (s.1 (q + 22)) m v)) (c, f, p, o, v, ag))) := by
  rw [xg_64_2, eR_2, hQ.2.2, ymg_8 hQ.1, xg_64_10, eR_v, ys_22 hQ.1, if_pos (mj_in_nI hm (by decide)), nI_clamp (by omega), eR_p hQ.1 (by omega), wR_p hQ.1 (by omega)]
theorem n_k136 (hT : TH T N s) (hQ : RQ q s) (hi : ci < 16) (hm : m < 385) (hf : ¬ f = 0) (hz : s.1 (q + 20) m = 0) : ∃ s' o' v', k136 (mjF (d + 4)) 64 (nI ci) (nI m) (mjW0 (eR s (N, f, p, o, v, ag))) = some (none, mjW0 (eR s' (N, f, p, o', v', ag))) ∧ offM q ci m s s' := by
  have o1 : offM q ci m s (meS s q ci m) := meS_off
  have z1 : (meS s q ci m).1 (q + 20) m = 0 := by rw [meS_at.2.2.2.1 (q + 20) (by omega) (by omega) (by omega)]; exact hz
  have o2 : offM q ci m (meS s q ci m) (bsP (meS s q ci m) q m 1) := bsP_off 1
  have o3 : offM q ci m (bsP (meS s q ci m) q m 1) (uI (bsP (meS s q ci m) q m 1) 70 (upd ((bsP (meS s q ci m) q m 1).1 70) m (nI N))) := offG.w (chM_m (by omega))
  have e : (bsP (meS s q ci m) q m 1).1 (q + 20) m = nI 1 := by unfold bsP; rw [uI_same]; exact if_pos rfl
  have hT3 := (((hT.offM hQ.1 o1).offM hQ.1 o2).offM hQ.1 o3)
  have hQ3 := (((hQ.offM o1).offM o2).offM o3)
  have k : k136 (mjF (d + 4)) 64 (nI ci) (nI m) (mjW0 (eR s (N, f, p, o, v, ag))) = some (none, mjW0 (eR (uI (uI (bsP (meS s q ci m) q m 1) 70 (upd ((bsP (meS s q ci m) q m 1).1 70) m (nI N))) (q + 22) (upd ((uI (bsP (meS s q ci m) q m 1) 70 (upd ((bsP (meS s q ci m) q m 1).1 70) m (nI N))).1 (q + 22)) m (nI 1))) (N, f, p, o - 1 - 1, nI 1, ag))) := by
    rw [k136_me hT hQ hi hm (Nat.le_refl N) (kN hT (by decide)), n_params (hT.offM hQ.1 o1) (hQ.offM o1) hm hf z1, bN_s, k136_b ((hT.offM hQ.1 o1).offM hQ.1 o2) ((hQ.offM o1).offM o2) hm (Nat.le_refl N) e, n_block hT3 hf, bN_s, k136_e hQ3 hm]
  exact ⟨_, _, _, k, ((o1.tr o2).tr o3).tr (offG.w (chM_m (h := q + 22) (by omega)))⟩
end MJ58
end
section
/-! ===== a MEMBER, whole ===== -/
section MJ59
variable {T : TT} {d N c q ci m : Nat} {s : mjSt3} {f p o v : Int32} {ag : Nat → Int32}
/-- the base behind a FIELD -/
def faS (s : mjSt3) (q ci m : Nat) : mjSt3 := uI (uI s (q + 19) (upd (s.1 (q + 19)) m (s.1 (q + 7) ci))) (q + 7) (upd (s.1 (q + 7)) ci (s.1 (q + 7) ci + 1))
theorem faS_off : offM q ci m s (faS s q ci m) := by
  unfold faS
  have a : offM q ci m s (uI s (q + 19) (upd (s.1 (q + 19)) m (s.1 (q + 7) ci))) := offG.w (chM_m (by omega))
  have b : offM q ci m _ (uI (uI s (q + 19) (upd (s.1 (q + 19)) m (s.1 (q + 7) ci))) (q + 7) (upd ((uI s (q + 19) (upd (s.1 (q + 19)) m (s.1 (q + 7) ci))).1 (q + 7)) ci (s.1 (q + 7) ci + 1))) := offG.w (chM_c (by omega))
  rw [uI_ne _ _ _ _ (show ¬ q + 7 = q + 19 by omega)] at b
  exact a.tr b
theorem k136_f (hT : TH T N s) (hQ : RQ q s) (hi : ci < 16) (hm : m < 385) (hc : c ≤ N) (h59 : (T c).1 = 59) : k136 (mjF (d + 4)) 64 (nI ci) (nI m) (mjW0 (eR s (c, 0, p, o, v, ag))) = some (none, mjW0 (eR (faS s q ci m) (c + 1, 0, p, o, v, ag))) := by
  have hq : q = 2 ∨ q = 30 := hQ.1
  have q1 : s.2.2 64 1 = q := hQ.2.1
  have q2 : s.2.2 64 2 = q + 14 := hQ.2.2
  have hl := lt_of hT hc h59 (by decide)
  unfold k136
  rw [xg_64_0, xV_58, u_is hT hc, bI_s, i01, if_pos h59, xg_64_0, xV_58, u_skip hT hl, bN_s, xg_64_2, eR_2, q2, ymg_5 hQ.1, xg_64_1, eR_2, q1, yg_7 hQ.1, ya_7 hQ.1, if_pos (mj_in_nI hi (by decide)), nI_clamp (by omega), eR_p hQ.1 (by omega), ys_19 hQ.1, if_pos (mj_in_nI hm (by decide)), nI_clamp (by omega), eR_p hQ.1 (by omega), wR_p hQ.1 (by omega), xg_64_1, eR_2, uI_l, q1, yg_7 hQ.1, ya_7 hQ.1, if_pos (mj_in_nI hi (by decide)), nI_clamp (by omega), eR_p hQ.1 (by omega), uI_ne _ _ _ _ (show ¬ q + 7 = q + 19 by omega), ys_7 hQ.1, if_pos (mj_in_nI hi (by decide)), nI_clamp (by omega), eR_p hQ.1 (by omega), uI_ne _ _ _ _ (show ¬ q + 7 = q + 19 by omega), wR_p hQ.1 (by omega)]
  rfl
/-- the base behind a METHOD: k PARAMS, BLOCK at c2, td VARIABLES -/
def mtS (s : mjSt3) (q ci m k c2 td : Nat) : mjSt3 := uI (uI (bsP (meS s q ci m) q m k) 70 (upd ((bsP (meS s q ci m) q m k).1 70) m (nI c2))) (q + 22) (upd ((uI (bsP (meS s q ci m) q m k) 70 (upd ((bsP (meS s q ci m) q m k).1 70) m (nI c2))).1 (q + 22)) m (nI td))
theorem mtS_off (k c2 td : Nat) : offM q ci m s (mtS s q ci m k c2 td) := by
  have o1 : offM q ci m s (meS s q ci m) := meS_off
  have o2 : offM q ci m (meS s q ci m) (bsP (meS s q ci m) q m k) := bsP_off k
  have o3 : offM q ci m (bsP (meS s q ci m) q m k) (uI (bsP (meS s q ci m) q m k) 70 (upd ((bsP (meS s q ci m) q m k).1 70) m (nI c2))) := offG.w (chM_m (by omega))
  exact ((o1.tr o2).tr o3).tr (offG.w (chM_m (h := q + 22) (by omega)))
/-- from the NAME on -/
theorem x_k136 (hT : TH T N s) (hQ : RQ q s) (hi : ci < 16) (hm : m < 385) (hc : c ≤ N) {D kq i0 : Nat} (hD : 190 ≤ D) (hz : s.1 (q + 20) m = 0) (h59 : ¬ (T c).1 = 59) : match pParams T kq c with
    | .inl e => mbOK q ci m s T N (k136 (mjF D) 64 (nI ci) (nI m) (mjW0 (eR s (c, 0, p, nI 1, v, ag)))) e
    | .inr y => match prS T (N + 1) 30 0 1 y.1 y.2.1.length (kq + y.2.2.length) i0 with
      | .inl e => mbOK q ci m s T N (k136 (mjF D) 64 (nI ci) (nI m) (mjW0 (eR s (c, 0, p, nI 1, v, ag)))) e
      | .inr z => z.1 ≤ N ∧ k136 (mjF D) 64 (nI ci) (nI m) (mjW0 (eR s (c, 0, p, nI 1, v, ag))) = some (none, mjW0 (eR (mtS s q ci m y.2.1.length y.1 z.2.1) (z.1, 0, p, nI 1, nI z.2.1, rAg z.2.2.2.2 ag))) := by
  obtain ⟨D, rfl⟩ : ∃ e, D = e + 190 := ⟨D - 190, by omega⟩
  have o1 : offM q ci m s (meS s q ci m) := meS_off
  have z1 : (meS s q ci m).1 (q + 20) m = 0 := by rw [meS_at.2.2.2.1 (q + 20) (by omega) (by omega) (by omega)]; exact hz
  rw [k136_me (d := D + 186) hT hQ hi hm hc h59]
  have h := x_params (d := D + 186) (ci := ci) (kq := kq) (p := p) (v := v) (ag := ag) (hT.offM hQ.1 o1) (hQ.offM o1) hm (o := 1) (by omega) hc z1
  cases hd : pParams T kq c with
  | inl e =>
    rw [hd] at h
    obtain ⟨he, s', o', v', ag', h, r⟩ := h
    have o3 : offM q ci m s' (uI s' 70 (upd (s'.1 70) m (nI N))) := offG.w (chM_m (by omega))
    have hT2 := (hT.offM hQ.1 o1).offM hQ.1 r
    have hQ2 := (hQ.offM o1).offM r
    have hT3 := hT2.offM hQ.1 o3
    have hQ3 := hQ2.offM o3
    rw [h, bN_s, k136_b (d := D + 186) hT2 hQ2 hm (Nat.le_refl N) rfl, n_block hT3 (in_n0 he), bN_s, k136_e hQ3 hm]
    exact ⟨he, _, _, _, _, rfl, ((o1.tr r).tr o3).tr (offG.w (chM_m (h := q + 22) (by omega)))⟩
  | inr y =>
    rw [hd] at h
    obtain ⟨hy, hy6, h⟩ := h
    have o2 : offM q ci m (meS s q ci m) (bsP (meS s q ci m) q m y.2.1.length) := bsP_off _
    have e : (bsP (meS s q ci m) q m y.2.1.length).1 (q + 20) m = nI y.2.1.length := by unfold bsP; rw [uI_same]; exact if_pos rfl
    have o3 : offM q ci m (bsP (meS s q ci m) q m y.2.1.length) (uI (bsP (meS s q ci m) q m y.2.1.length) 70 (upd ((bsP (meS s q ci m) q m y.2.1.length).1 70) m (nI y.1))) := offG.w (chM_m (by omega))
    have hT2 := (hT.offM hQ.1 o1).offM hQ.1 o2
    have hQ2 := (hQ.offM o1).offM o2
    have hT3 := hT2.offM hQ.1 o3
    have hQ3 := hQ2.offM o3
    rw [h, bN_s, k136_b (d := D + 186) hT2 hQ2 hm hy e]
    show match prS T (N + 1) 30 0 1 y.1 y.2.1.length (kq + y.2.2.length) i0 with
      | .inl e => _
      | .inr z => _
    have k := (rdS_ok hT3 30 (D + 190) 1 y.1 y.2.1.length (kq + y.2.2.length) i0 p ag (by omega) (by omega) hy (by omega)).1 (by omega)
    cases hz : prS T (N + 1) 30 0 1 y.1 y.2.1.length (kq + y.2.2.length) i0 with
    | inl e =>
      rw [hz] at k
      obtain ⟨he, o', v', ag', k⟩ := k
      rw [k, bN_s, k136_e hQ3 hm]
      exact ⟨he, _, _, _, _, rfl, ((o1.tr o2).tr o3).tr (offG.w (chM_m (h := q + 22) (by omega)))⟩
    | inr z =>
      rw [hz] at k
      obtain ⟨hz', k⟩ := k
      rw [k, bN_s, k136_e hQ3 hm]
      exact ⟨hz', rfl⟩
/-- the base ahead of a MEMBER's TYPE -/
def mbS (s : mjSt3) (q ci m c k : Nat) : mjSt3 := uI (uI (uI (uI s (q + 14) (upd (s.1 (q + 14)) 0 (nI (m + 1)))) (q + 10) (upd (s.1 (q + 10)) ci (nI (k + 1)))) (q + 16) (upd (s.1 (q + 16)) m (nI ci))) 68 (upd (s.1 68) m (nI c))
theorem mbS_at (hQ : isP q) {k : Nat} : (mbS s q ci m c k).1 (q + 14) = upd (s.1 (q + 14)) 0 (nI (m + 1)) ∧ (mbS s q ci m c k).1 (q + 10) = upd (s.1 (q + 10)) ci (nI (k + 1)) ∧ (mbS s q ci m c k).1 (q + 16) = upd (s.1 (q + 16)) m (nI ci) ∧ (mbS s q ci m c k).1 68 = upd (s.1 68) m (nI c) ∧ (∀ h, ¬ h = q + 14 → ¬ h = q + 10 → ¬ h = q + 16 → ¬ h = 68 → (mbS s q ci m c k).1 h = s.1 h) ∧ (mbS s q ci m c k).2 = s.2 := by
  have hq : q = 2 ∨ q = 30 := hQ
  unfold mbS
  refine ⟨?_, ?_, ?_, ?_, fun h a b e g => ?_, rfl⟩
  · rw [uI_ne _ _ _ _ (by omega), uI_ne _ _ _ _ (by omega), uI_ne _ _ _ _ (by omega), uI_same]
  · rw [uI_ne _ _ _ _ (by omega), uI_ne _ _ _ _ (by omega), uI_same]
  · rw [uI_ne _ _ _ _ (by omega), uI_same]
  · rw [uI_same]
  · rw [uI_ne _ _ _ _ g, uI_ne _ _ _ _ e, uI_ne _ _ _ _ b, uI_ne _ _ _ _ a]
theorem mbS_off (hQ : isP q) {k : Nat} : offM q ci m s (mbS s q ci m c k) := by
  have f := mbS_at (s := s) (q := q) (ci := ci) (m := m) (c := c) (k := k) hQ
  refine offG_of (fun h j n => ?_) f.2.2.2.2.2
  by_cases e1 : h = q + 14
  · rw [e1, f.1]; exact if_neg (fun e => n (by rw [e, e1]; exact Or.inl ⟨rfl, rfl⟩))
  by_cases e2 : h = q + 10
  · rw [e2, f.2.1]; exact if_neg (fun e => n (by rw [e, e2]; exact chM_c (by omega)))
  by_cases e3 : h = q + 16
  · rw [e3, f.2.2.1]; exact if_neg (fun e => n (by rw [e, e3]; exact chM_m (by omega)))
  by_cases e4 : h = 68
  · rw [e4, f.2.2.2.1]; exact if_neg (fun e => n (by rw [e, e4]; exact chM_m (by omega)))
  rw [f.2.2.2.2.1 h e1 e2 e3 e4]
/-- the base ahead of a MEMBER's NAME -/
def mcS (s : mjSt3) (q m c1 : Nat) : mjSt3 := uL (uI s 69 (upd (s.1 69) m (nI c1))) (q + 15) (vp_updL (s.2.1 (q + 15)) m (s.2.1 62 c1))
theorem mcS_off (c1 : Nat) : offM q ci m s (mcS s q m c1) := by
  have a : offM q ci m s (uI s 69 (upd (s.1 69) m (nI c1))) := offG.w (chM_m (by omega))
  exact a.tr (offG.wl ⟨rfl, rfl⟩)
theorem u_key (hT : TH T N s) (hc : c ≤ N) {k : Nat} (hk : k ≤ N) : mjF (d + 1) 170 [.ref 58, .int (nI k)] (mjW0 (eR s (c, f, p, o, v, ag))) = some (some (.long (s.2.1 62 k)), mjW0 (eR s (c, f, p, o, v, ag))) := by
  rw [x_keyAt (eR_Tk hT.tb (show (c, f, p, o, v, ag).1 ≤ N from hc)) (by omega), eR_2]
theorem bL_s {v : Int64} {hp : mjH} {k : Int64 → mjH → mjU} : bL (some (some (.long v), hp)) k = k v hp := rfl
/-- readMember, up to its TYPE and from behind it -/
theorem x_136a (hT : TH T N s) (hQ : RQ q s) (hi : ci < 16) (hm : m < 384) {k D : Nat} (hk : k < 24) (hc : c ≤ N) (hD : 4 ≤ D) (h14 : s.1 (q + 14) 0 = nI m) (h10 : s.1 (q + 10) ci = nI k) {c1 : Nat} {f' p' : Int32} (hc1 : c1 ≤ N) (ht : mjF D 130 [.ref 64, .int 1] (mjW0 (eR (mbS s q ci m c k) (c, 0, p, o, v, ag))) = some (none, mjW0 (eR (mbS s q ci m c k) (c1, f', p', o, v, ag)))) :
    mjF (D + 1) 136 [.ref 64, .int (nI ci), .int (nI k)] (mjW0 (eR s (c, 0, p, o, v, ag))) = (bN (mjF D 169 [.ref 58, .int 3] (mjW0 (eR (mcS (mbS s q ci m c k) q m c1) (c1, f', p', o, v, ag)))) fun hp34 => k136 (mjF D) 64 (nI ci) (nI m) hp34) := by
  obtain ⟨D, rfl⟩ : ∃ e, D = e + 4 := ⟨D - 4, by omega⟩
  have hq : q = 2 ∨ q = 30 := hQ.1
  have q1 : s.2.2 64 1 = q := hQ.2.1
  have q2 : s.2.2 64 2 = q + 14 := hQ.2.2
  have n24 : ¬ nI k = 24 := fun e => by have := (nI_eq (a := k) (b := 24) (by omega) (by omega)).mp e; omega
  have ob : offM q ci m s (mbS s q ci m c k) := mbS_off hQ.1
  have hTb := hT.offM hQ.1 ob
  have hQb := hQ.offM ob
  rw [e_136]
  unfold f_136 b_136_0
  rw [xg_64_2, eR_2, q2, ymg_0 hQ.1, eR_p hQ.1 (by omega), h14, if_neg n24, if_pos (show nI m < 384 from nI_lt (b := 384) hm (by omega)), xg_64_2, eR_2, q2, ymg_0 hQ.1, eR_p hQ.1 (by omega), h14, nI_1, ymp_0 hQ.1, eR_p hQ.1 (by omega), wR_p hQ.1 (by omega), xg_64_1, eR_2, uI_l, q1, yg_10 hQ.1, ya_10 hQ.1, if_pos (mj_in_nI hi (by decide)), nI_clamp (by omega), eR_p hQ.1 (by omega), uI_ne _ _ _ _ (show ¬ q + 10 = q + 14 by omega), h10, nI_1, ys_10 hQ.1, if_pos (mj_in_nI hi (by decide)), nI_clamp (by omega), eR_p hQ.1 (by omega), uI_ne _ _ _ _ (show ¬ q + 10 = q + 14 by omega), wR_p hQ.1 (by omega), xg_64_2, eR_2, uI_l, uI_l, q2, ymg_2 hQ.1, ys_16 hQ.1, if_pos (mj_in_nI (by omega) (by decide)), nI_clamp (by omega), eR_p hQ.1 (by omega), uI_ne _ _ _ _ (show ¬ q + 16 = q + 10 by omega), uI_ne _ _ _ _ (show ¬ q + 16 = q + 14 by omega), wR_p hQ.1 (by omega), xg_64_6, xg_64_0, xV_58]
  have oc : offM q ci m s (uI (uI (uI s (q + 14) (upd (s.1 (q + 14)) 0 (nI (m + 1)))) (q + 10) (upd (s.1 (q + 10)) ci (nI (k + 1)))) (q + 16) (upd (s.1 (q + 16)) m (nI ci))) := by
    have a : offM q ci m s (uI s (q + 14) (upd (s.1 (q + 14)) 0 (nI (m + 1)))) := offG.w (Or.inl ⟨rfl, rfl⟩)
    have b : offM q ci m _ (uI (uI s (q + 14) (upd (s.1 (q + 14)) 0 (nI (m + 1)))) (q + 10) (upd ((uI s (q + 14) (upd (s.1 (q + 14)) 0 (nI (m + 1)))).1 (q + 10)) ci (nI (k + 1)))) := offG.w (chM_c (by omega))
    rw [uI_ne _ _ _ _ (show ¬ q + 10 = q + 14 by omega)] at b
    have e : offM q ci m (uI (uI s (q + 14) (upd (s.1 (q + 14)) 0 (nI (m + 1)))) (q + 10) (upd (s.1 (q + 10)) ci (nI (k + 1)))) (uI (uI (uI s (q + 14) (upd (s.1 (q + 14)) 0 (nI (m + 1)))) (q + 10) (upd (s.1 (q + 10)) ci (nI (k + 1)))) (q + 16) (upd ((uI (uI s (q + 14) (upd (s.1 (q + 14)) 0 (nI (m + 1)))) (q + 10) (upd (s.1 (q + 10)) ci (nI (k + 1)))).1 (q + 16)) m (nI ci))) := offG.w (chM_m (by omega))
    rw [uI_ne _ _ _ _ (show ¬ q + 16 = q + 10 by omega), uI_ne _ _ _ _ (show ¬ q + 16 = q + 14 by omega)] at e
    exact (a.tr b).tr e
  rw [u_now (hT.offM hQ.1 oc) hc, bI_s, xs_68, if_pos (mj_in_nI (by omega) (by decide)), nI_clamp (by omega), eR_r (by decide), uI_ne _ _ _ _ (show ¬ 68 = q + 16 by omega), uI_ne _ _ _ _ (show ¬ 68 = q + 10 by omega), uI_ne _ _ _ _ (show ¬ 68 = q + 14 by omega), wR_r (by decide), xV_64]
  change bN (mjF (D + 4) 130 [.ref 64, .int 1] (mjW0 (eR (mbS s q ci m c k) (c, 0, p, o, v, ag)))) _ = _
  have o9 : offM q ci m (mbS s q ci m c k) (uI (mbS s q ci m c k) 69 (upd ((mbS s q ci m c k).1 69) m (nI c1))) := offG.w (chM_m (by omega))
  have hT9 := hTb.offM hQ.1 o9
  rw [ht, bN_s, xg_64_7, xg_64_0, xV_58, u_now hTb hc1, bI_s, xs_69, if_pos (mj_in_nI (by omega) (by decide)), nI_clamp (by omega), eR_r (by decide), wR_r (by decide), xg_64_2, eR_2, uI_l, hQb.2.2, ymg_1 hQ.1, xg_64_0, xg_64_0, xV_58, u_now hT9 hc1, bI_s, xV_58, u_key hT9 hc1 hc1, bL_s, ys_15 hQ.1, if_pos (mj_in_nI (by omega) (by decide)), nI_clamp (by omega), xg_64_0, xV_58]
  rfl
end MJ59
end
section
/-! ===== all MEMBERS of a CLASS ===== -/
theorem uL_g (s : mjSt3) (h : Nat) (f : Nat → Int64) (h' j : Nat) : (uL s h f).2.1 h' j = if h' = h then f j else s.2.1 h' j := by
  by_cases e : h' = h
  · rw [if_pos e, e, uL_same]
  · rw [if_neg e, uL_ne _ _ _ _ e]
theorem updL_g (f : Nat → Int64) (j : Nat) (v : Int64) (i : Nat) : vp_updL f j v i = if i = j then v else f i := rfl
section MJ60
variable {T : TT} {d N c q ci m : Nat} {s : mjSt3} {f p o v : Int32} {ag : Nat → Int32}
def bn (b : Bool) : Nat := if b = true then 1 else 0
/-- what a MEMBER's reading leaves -/
def memR (q ci m k a b : Nat) (s s' : mjSt3) (md : MD) : Prop := offM q ci m s s' ∧ MF q ci m (if md.2.2.1 = true then a else b) s' md ∧ s'.1 (q + 14) 0 = nI (m + 1) ∧ s'.1 (q + 10) ci = nI (k + 1) ∧ s'.1 (q + 6) ci = nI (a + bn md.2.2.1) ∧ s'.1 (q + 7) ci = nI (b + bn (!md.2.2.1))
theorem faS_at : (faS s q ci m).1 (q + 19) = upd (s.1 (q + 19)) m (s.1 (q + 7) ci) ∧ (faS s q ci m).1 (q + 7) = upd (s.1 (q + 7)) ci (s.1 (q + 7) ci + 1) ∧ (∀ h, ¬ h = q + 19 → ¬ h = q + 7 → (faS s q ci m).1 h = s.1 h) ∧ (faS s q ci m).2 = s.2 := by
  unfold faS
  refine ⟨?_, ?_, fun h a b => ?_, rfl⟩
  · rw [uI_ne _ _ _ _ (by omega), uI_same]
  · rw [uI_same]
  · rw [uI_ne _ _ _ _ b, uI_ne _ _ _ _ a]
theorem mcS_at {c1 : Nat} : (mcS s q m c1).1 69 = upd (s.1 69) m (nI c1) ∧ (∀ h, ¬ h = 69 → (mcS s q m c1).1 h = s.1 h) ∧ (mcS s q m c1).2.1 (q + 15) = vp_updL (s.2.1 (q + 15)) m (s.2.1 62 c1) ∧ (∀ h, ¬ h = q + 15 → (mcS s q m c1).2.1 h = s.2.1 h) := by
  unfold mcS
  refine ⟨?_, fun h a => ?_, ?_, fun h a => ?_⟩
  · rw [uL_i, uI_same]
  · rw [uL_i, uI_ne _ _ _ _ a]
  · rw [uL_same]
  · rw [uL_ne _ _ _ _ a]; rfl
theorem mtS_at (hQ : isP q) {k c2 td : Nat} : (mtS s q ci m k c2 td).1 (q + 18) = upd (s.1 (q + 18)) m 1 ∧ (mtS s q ci m k c2 td).1 (q + 19) = upd (s.1 (q + 19)) m (s.1 (q + 6) ci) ∧ (mtS s q ci m k c2 td).1 (q + 6) = upd (s.1 (q + 6)) ci (s.1 (q + 6) ci + 1) ∧ (mtS s q ci m k c2 td).1 (q + 20) = upd (s.1 (q + 20)) m (nI k) ∧ (mtS s q ci m k c2 td).1 70 = upd (s.1 70) m (nI c2) ∧ (mtS s q ci m k c2 td).1 (q + 22) = upd (s.1 (q + 22)) m (nI td) ∧ (∀ h, ¬ h = q + 18 → ¬ h = q + 19 → ¬ h = q + 6 → ¬ h = q + 20 → ¬ h = 70 → ¬ h = q + 22 → (mtS s q ci m k c2 td).1 h = s.1 h) ∧ (mtS s q ci m k c2 td).2 = s.2 := by
  have hq : q = 2 ∨ q = 30 := hQ
  have f := meS_at (s := s) (q := q) (ci := ci) (m := m)
  unfold mtS bsP
  refine ⟨?_, ?_, ?_, ?_, ?_, ?_, fun h a b e g i j => ?_, f.2.2.2.2⟩
  · rw [uI_ne _ _ _ _ (by omega), uI_ne _ _ _ _ (by omega), uI_ne _ _ _ _ (by omega), f.1]
  · rw [uI_ne _ _ _ _ (by omega), uI_ne _ _ _ _ (by omega), uI_ne _ _ _ _ (by omega), f.2.1]
  · rw [uI_ne _ _ _ _ (by omega), uI_ne _ _ _ _ (by omega), uI_ne _ _ _ _ (by omega), f.2.2.1]
  · rw [uI_ne _ _ _ _ (by omega), uI_ne _ _ _ _ (by omega), uI_same, f.2.2.2.1 (q + 20) (by omega) (by omega) (by omega)]
  · rw [uI_ne _ _ _ _ (by omega), uI_same, uI_ne _ _ _ _ (by omega), f.2.2.2.1 70 (by omega) (by omega) (by omega)]
  · rw [uI_same, uI_ne _ _ _ _ (by omega), uI_ne _ _ _ _ (by omega), f.2.2.2.1 (q + 22) (by omega) (by omega) (by omega)]
  · rw [uI_ne _ _ _ _ j, uI_ne _ _ _ _ i, uI_ne _ _ _ _ g, f.2.2.2.1 h a b e]
theorem up_same (f : Nat → Int32) (j : Nat) (v : Int32) : upd f j v j = v := if_pos rfl
theorem memR_f (hQ : isP q) {k a b c1 : Nat} {kk : Int32} (h6 : s.1 (q + 6) ci = nI a) (h7 : s.1 (q + 7) ci = nI b) (z18 : s.1 (q + 18) m = 0) (z20 : s.1 (q + 20) m = 0) : memR q ci m k a b s (faS (mcS (mbS s q ci m c k) q m c1) q ci m) (c, c1, false, [], 0, 0, 0, kk) := by
  have hq : q = 2 ∨ q = 30 := hQ
  have F := faS_at (s := mcS (mbS s q ci m c k) q m c1) (q := q) (ci := ci) (m := m)
  have C := mcS_at (s := mbS s q ci m c k) (q := q) (m := m) (c1 := c1)
  have B := mbS_at (s := s) (q := q) (ci := ci) (m := m) (c := c) (k := k) hQ
  have g : ∀ h, ¬ h = q + 19 → ¬ h = q + 7 → ¬ h = 69 → ¬ h = q + 14 → ¬ h = q + 10 → ¬ h = q + 16 → ¬ h = 68 → (faS (mcS (mbS s q ci m c k) q m c1) q ci m).1 h = s.1 h := fun h a b e x y z w => (F.2.2.1 h a b).trans ((C.2.1 h e).trans (B.2.2.2.2.1 h x y z w))
  have e7 : (mcS (mbS s q ci m c k) q m c1).1 (q + 7) = s.1 (q + 7) := (C.2.1 (q + 7) (by omega)).trans (B.2.2.2.2.1 (q + 7) (by omega) (by omega) (by omega) (by omega))
  refine ⟨((mbS_off hQ).tr (mcS_off c1)).tr faS_off, ⟨?_, ?_, ?_, ?_, ?_, ?_, ?_, fun h => nomatch h⟩, ?_, ?_, ?_, ?_⟩
  · rw [F.2.2.1 (q + 16) (by omega) (by omega), C.2.1 (q + 16) (by omega), B.2.2.1, up_same]
  · rw [F.2.2.1 68 (by omega) (by omega), C.2.1 68 (by omega), B.2.2.2.1, up_same]
  · rw [F.2.2.1 69 (by omega) (by omega), C.1, up_same]
  · rw [F.2.2.2, C.2.2.1, C.2.2.2 62 (by omega), B.2.2.2.2.2, updL_g, if_pos rfl]
  · rw [g (q + 18) (by omega) (by omega) (by omega) (by omega) (by omega) (by omega) (by omega), z18, if_neg (show ¬ false = true by decide)]
  · rw [F.1, up_same, e7, h7, if_neg (show ¬ false = true by decide)]
  · rw [g (q + 20) (by omega) (by omega) (by omega) (by omega) (by omega) (by omega) (by omega), z20, List.length_nil, nI_0]
  · rw [F.2.2.1 (q + 14) (by omega) (by omega), C.2.1 (q + 14) (by omega), B.1, up_same]
  · rw [F.2.2.1 (q + 10) (by omega) (by omega), C.2.1 (q + 10) (by omega), B.2.1, up_same]
  · rw [g (q + 6) (by omega) (by omega) (by omega) (by omega) (by omega) (by omega) (by omega), h6, show bn false = 0 from rfl, Nat.add_zero]
  · rw [F.2.1, up_same, e7, h7, nI_1, show bn (!false) = 1 from rfl]
theorem memR_m (hQ : isP q) {k a b c1 c2 td oi : Nat} {ps : List (Nat × Nat × Int32)} {kk : Int32} (h6 : s.1 (q + 6) ci = nI a) (h7 : s.1 (q + 7) ci = nI b) : memR q ci m k a b s (mtS (mcS (mbS s q ci m c k) q m c1) q ci m ps.length c2 td) (c, c1, true, ps, c2, td, oi, kk) := by
  have hq : q = 2 ∨ q = 30 := hQ
  have F := mtS_at (s := mcS (mbS s q ci m c k) q m c1) (q := q) (ci := ci) (m := m) (k := ps.length) (c2 := c2) (td := td) hQ
  have C := mcS_at (s := mbS s q ci m c k) (q := q) (m := m) (c1 := c1)
  have B := mbS_at (s := s) (q := q) (ci := ci) (m := m) (c := c) (k := k) hQ
  have e6 : (mcS (mbS s q ci m c k) q m c1).1 (q + 6) = s.1 (q + 6) := (C.2.1 (q + 6) (by omega)).trans (B.2.2.2.2.1 (q + 6) (by omega) (by omega) (by omega) (by omega))
  refine ⟨((mbS_off hQ).tr (mcS_off c1)).tr (mtS_off _ _ _), ⟨?_, ?_, ?_, ?_, ?_, ?_, ?_, fun _ => ⟨?_, ?_⟩⟩, ?_, ?_, ?_, ?_⟩
  · rw [F.2.2.2.2.2.2.1 (q + 16) (by omega) (by omega) (by omega) (by omega) (by omega) (by omega), C.2.1 (q + 16) (by omega), B.2.2.1, up_same]
  · rw [F.2.2.2.2.2.2.1 68 (by omega) (by omega) (by omega) (by omega) (by omega) (by omega), C.2.1 68 (by omega), B.2.2.2.1, up_same]
  · rw [F.2.2.2.2.2.2.1 69 (by omega) (by omega) (by omega) (by omega) (by omega) (by omega), C.1, up_same]
  · rw [F.2.2.2.2.2.2.2, C.2.2.1, C.2.2.2 62 (by omega), B.2.2.2.2.2, updL_g, if_pos rfl]
  · rw [F.1, up_same, if_pos (show true = true from rfl)]
  · rw [F.2.1, up_same, e6, h6, if_pos (show true = true from rfl)]
  · rw [F.2.2.2.1, up_same]
  · rw [F.2.2.2.2.1, up_same]
  · rw [F.2.2.2.2.2.1, up_same]
  · rw [F.2.2.2.2.2.2.1 (q + 14) (by omega) (by omega) (by omega) (by omega) (by omega) (by omega), C.2.1 (q + 14) (by omega), B.1, up_same]
  · rw [F.2.2.2.2.2.2.1 (q + 10) (by omega) (by omega) (by omega) (by omega) (by omega) (by omega), C.2.1 (q + 10) (by omega), B.2.1, up_same]
  · rw [F.2.2.1, up_same, e6, h6, nI_1, show bn true = 1 from rfl]
  · rw [F.2.2.2.2.2.2.1 (q + 7) (by omega) (by omega) (by omega) (by omega) (by omega) (by omega), C.2.1 (q + 7) (by omega), B.2.2.2.2.1 (q + 7) (by omega) (by omega) (by omega) (by omega), h7, show bn (!true) = 0 from rfl, Nat.add_zero]
theorem x_mem (hT : TH T N s) (hQ : RQ q s) (hi : ci < 16) {k : Nat} (hm : m < 384 ∨ k = 24) {D kq i0 a b : Nat} (hk : k ≤ 24) (hc : c ≤ N) (hD : 191 ≤ D) (hty : tyS (T c).1 = true) (h14 : s.1 (q + 14) 0 = nI m) (h10 : s.1 (q + 10) ci = nI k) (h6 : s.1 (q + 6) ci = nI a) (h7 : s.1 (q + 7) ci = nI b) (z18 : s.1 (q + 18) m = 0) (z20 : s.1 (q + 20) m = 0) : match pMem T (N + 1) k c kq i0 with
    | .inl e => mbOK q ci m s T N (mjF D 136 [.ref 64, .int (nI ci), .int (nI k)] (mjW0 (eR s (c, 0, p, nI 1, v, ag)))) e
    | .inr r => r.1 ≤ N ∧ ∃ s' v', mjF D 136 [.ref 64, .int (nI ci), .int (nI k)] (mjW0 (eR s (c, 0, p, nI 1, v, ag))) = some (none, mjW0 (eR s' (r.1, 0, p, nI 1, v', rAg r.2.2.2.2 ag))) ∧ memR q ci m k a b s s' r.2.1 := by
  obtain ⟨D, rfl⟩ : ∃ e, D = e + 191 := ⟨D - 191, by omega⟩
  unfold pMem
  by_cases k24 : k = 24
  · subst k24
    have h1 : ¬ (T c).1 = 1 := fun e => by rw [e] at hty; exact absurd hty (by decide)
    rw [if_pos rfl, e_136]
    unfold f_136 b_136_0 b_136_21
    rw [xg_64_2, eR_2, hQ.2.2, ymg_0 hQ.1, if_pos (show nI 24 = 24 from rfl), xg_64_0, xV_58, u_ref3 hT hc h1, bN_s]
    exact ⟨Or.inr (Or.inr rfl), _, _, _, _, rfl, offG.rf⟩
  have hm' : m < 384 := hm.resolve_right k24
  rw [if_neg k24]
  have ob : offM q ci m s (mbS s q ci m c k) := mbS_off hQ.1
  have hTb := hT.offM hQ.1 ob
  have hQb := hQ.offM ob
  have h := x_type (d := D + 187) (p := p) (o := nI 1) (v := v) (ag := ag) hTb hc
  cases hd : pType T c with
  | inl e =>
    rw [hd] at h
    obtain ⟨he, h⟩ := h
    have oc : offM q ci m (mbS s q ci m c k) (mcS (mbS s q ci m c k) q m N) := mcS_off N
    have zc : (mcS (mbS s q ci m c k) q m N).1 (q + 20) m = 0 := by
      have : (mcS (mbS s q ci m c k) q m N).1 (q + 20) = s.1 (q + 20) := by
        unfold mcS
        have hq : q = 2 ∨ q = 30 := hQ.1
        rw [uL_i, uI_ne _ _ _ _ (by omega), (mbS_at hQ.1).2.2.2.2.1 (q + 20) (by omega) (by omega) (by omega) (by omega)]
      rw [this]; exact z20
    obtain ⟨s', o', v', k', r⟩ := n_k136 (d := D + 186) (p := (T e.2).2.1) (o := nI 1) (v := v) (ag := ag) (hTb.offM hQ.1 oc) (hQb.offM oc) hi (by omega) (in_n0 he) zc
    rw [x_136a hT hQ hi hm' (by omega) hc (by omega) h14 h10 (Nat.le_refl N) h, u_needN (hTb.offM hQ.1 oc) (in_n0 he), bN_s, k']
    exact ⟨he, _, _, _, _, rfl, (ob.tr oc).tr r⟩
  | inr c1 =>
    rw [hd] at h
    obtain ⟨hc1, h⟩ := h
    have oc : offM q ci m (mbS s q ci m c k) (mcS (mbS s q ci m c k) q m c1) := mcS_off c1
    have hTc := hTb.offM hQ.1 oc
    have hQc := hQb.offM oc
    have zc : (mcS (mbS s q ci m c k) q m c1).1 (q + 20) m = 0 := by
      have : (mcS (mbS s q ci m c k) q m c1).1 (q + 20) = s.1 (q + 20) := by
        unfold mcS
        have hq : q = 2 ∨ q = 30 := hQ.1
        rw [uL_i, uI_ne _ _ _ _ (by omega), (mbS_at hQ.1).2.2.2.2.1 (q + 20) (by omega) (by omega) (by omega) (by omega)]
      rw [this]; exact z20
    rw [x_136a hT hQ hi hm' (by omega) hc (by omega) h14 h10 hc1 h]
    by_cases h3 : (T c1).1 = 3
    · have hl := lt_of hT hc1 h3 (by decide)
      rw [u_need hTc hc1 h3 (by decide), bN_s]
      simp only [if_pos h3]
      by_cases h59 : (T (c1 + 1)).1 = 59
      · have hl1 := lt_of hT (c := c1 + 1) (by omega) h59 (by decide)
        rw [k136_f (d := D + 186) hTc hQc hi (by omega) (c := c1 + 1) (by omega) h59]
        simp only [if_pos h59]
        exact ⟨by show c1 + 2 ≤ N; omega, _, _, rfl, memR_f hQ.1 h6 h7 z18 z20⟩
      · simp only [if_neg h59]
        have r := x_k136 (D := D + 190) (kq := kq + (tyL T c).length) (i0 := i0) (p := p) (v := v) (ag := ag) hTc hQc hi (by omega) (c := c1 + 1) (by omega) (by omega) zc h59
        cases hP : pParams T (kq + (tyL T c).length) (c1 + 1) with
        | inl e =>
          rw [hP] at r
          obtain ⟨he, s', o', v', ag', r, w⟩ := r
          exact ⟨he, s', o', v', ag', r, (ob.tr oc).tr w⟩
        | inr y =>
          rw [hP] at r
          replace r : match prS T (N + 1) 30 0 1 y.1 y.2.1.length (kq + (tyL T c).length + y.2.2.length) i0 with
            | .inl e => _
            | .inr z => _ := r
          show match (match prS T (N + 1) 30 0 1 y.1 y.2.1.length (kq + (tyL T c).length + y.2.2.length) i0 with
            | .inl e => .inl e
            | .inr z => .inr (z.1, (c, c1, true, y.2.1, y.1, z.2.1, i0, tyK T c kq), tyL T c ++ y.2.2 ++ z.2.2.1, z.2.2.2.1 ++ [oOver], z.2.2.2.2) : (Nat × Nat) ⊕ PR) with
            | .inl e => _
            | .inr r => _
          cases hS : prS T (N + 1) 30 0 1 y.1 y.2.1.length (kq + (tyL T c).length + y.2.2.length) i0 with
          | inl e =>
            rw [hS] at r
            obtain ⟨he, s', o', v', ag', r, w⟩ := r
            exact ⟨he, s', o', v', ag', r, (ob.tr oc).tr w⟩
          | inr z =>
            rw [hS] at r
            exact ⟨r.1, _, _, r.2, memR_m hQ.1 h6 h7⟩
    · obtain ⟨s', o', v', k', r⟩ := n_k136 (d := D + 186) (p := (T (F2 T c1).2).2.1) (o := nI 1) (v := v) (ag := ag) hTc hQc hi (by omega) (F2_n0 T c1) zc
      rw [u_need2 hTc hc1 h3, bN_s, k']
      simp only [if_neg h3]
      exact ⟨F2_in T _, _, _, _, _, rfl, (ob.tr oc).tr r⟩
end MJ60
end
section
/-! ===== all CLASSES ===== -/
/-- a CLASS: its head, its MEMBERS -/
abbrev CD : Type := HD × List MD
/-- cursor, MEMBERS, KINDS' tokens, orders, calls' arguments -/
abbrev PM : Type := Nat × List MD × List Nat × List Row × List (Nat × Nat)
def pMems (T : TT) (M kq i0 : Nat) : Nat → PM → (Nat × Nat) ⊕ PM
  | 0, z => .inr z
  | f + 1, z => if tyS (T z.1).1 = true then (match pMem T M z.2.1.length z.1 (kq + z.2.2.1.length) (i0 + z.2.2.2.1.length) with
    | .inl e => .inl e
    | .inr r => pMems T M kq i0 f (r.1, z.2.1 ++ [r.2.1], z.2.2.1 ++ r.2.2.1, z.2.2.2.1 ++ r.2.2.2.1, z.2.2.2.2 ++ r.2.2.2.2)) else .inr z
/-- the KIND behind is -/
def hdK (hd : HD) : List Nat := if hd.2.2.1 = 0 then [] else [hd.2.2.1]
abbrev PC : Type := Nat × List CD × List Nat × List Row × List (Nat × Nat)
def pClass (T : TT) (M n c kq i0 : Nat) : (Nat × Nat) ⊕ (Nat × CD × List Nat × List Row × List (Nat × Nat)) :=
  (match pHead T n c with
  | .inl e => .inl e
  | .inr h => (match pMems T M (kq + (hdK h.2).length) i0 25 (h.1, [], [], [], []) with
    | .inl e => .inl e
    | .inr z => if (T z.1).1 = 125 then .inr (z.1 + 1, (h.2, z.2.1), hdK h.2 ++ z.2.2.1, z.2.2.2.1, z.2.2.2.2) else .inl (F2 T z.1)))
def pClasses (T : TT) (M kq : Nat) : Nat → PC → (Nat × Nat) ⊕ PC
  | 0, z => .inr z
  | f + 1, z => if (T z.1).1 = 5 then (match pClass T M z.2.1.length z.1 (kq + z.2.2.1.length) z.2.2.2.1.length with
    | .inl e => .inl e
    | .inr r => pClasses T M kq f (r.1, z.2.1 ++ [r.2.1], z.2.2.1 ++ r.2.2.1, z.2.2.2.1 ++ r.2.2.2.1, z.2.2.2.2 ++ r.2.2.2.2)) else .inr z
/-- a TEXT: CLASSES; main's BLOCK's token and VARIABLES; KINDS' tokens; orders; arguments; where main's orders begin -/
abbrev PT : Type := List CD × (Nat × Nat) × List Nat × List Row × List (Nat × Nat) × Nat
def pText (T : TT) (M kq : Nat) : (Nat × Nat) ⊕ PT :=
  (match pClasses T M kq 17 (0, [], [], [], []) with
  | .inl e => .inl e
  | .inr z => if (T z.1).1 = 9 then (match prS T M 30 0 0 (z.1 + 1) 0 (kq + z.2.2.1.length) z.2.2.2.1.length with
      | .inl e => .inl e
      | .inr b => if (T b.1).1 = 0 then .inr (z.2.1, (z.1 + 1, b.2.1), z.2.2.1 ++ b.2.2.1, z.2.2.2.1 ++ b.2.2.2.1 ++ [oOver], z.2.2.2.2 ++ b.2.2.2.2, z.2.2.2.1.length) else .inl (F2 T b.1))
    else .inl (F2 T z.1))
/-- how many METHODS (true) or FIELDS (false) there are -/
def cntB (b : Bool) (l : List MD) : Nat := (l.filter (fun md => md.2.2.1 == b)).length
theorem cntB_app (b : Bool) (l : List MD) (md : MD) : cntB b (l ++ [md]) = cntB b l + bn (md.2.2.1 == b) := by
  unfold cntB bn
  rw [List.filter_append, List.length_append]
  cases h : (md.2.2.1 == b) <;> simp [List.filter, h]
def nMem (L : List CD) : Nat := (L.map (fun D => D.2.length)).sum
theorem nMem_app (L : List CD) (D : CD) : nMem (L ++ [D]) = nMem L + D.2.length := by
  unfold nMem
  rw [List.map_append, List.sum_append]
  rfl
/-- the rows of the MEMBERS read -/
def MFs (q ci fm : Nat) (s : mjSt3) (l : List MD) : Prop := ∀ (j : Nat) (md : MD), l[j]? = some md → MF q ci (fm + j) (cntB md.2.2.1 (l.take j)) s md
/-- a CLASS's rows -/
def CF (T : TT) (q c fm : Nat) (s : mjSt3) (D : CD) : Prop := HF T q c fm s D.1 ∧ s.1 (q + 10) c = nI D.2.length ∧ s.1 (q + 6) c = nI (cntB true D.2) ∧ s.1 (q + 7) c = nI (cntB false D.2) ∧ MFs q c fm s D.2
/-- nothing is put yet -/
def Fr (q c fm : Nat) (s : mjSt3) : Prop := (∀ j, c ≤ j → j < 16 → s.1 (q + 1) j = 0 ∧ s.1 (q + 3) j = 0 ∧ s.1 (q + 6) j = 0 ∧ s.1 (q + 7) j = 0 ∧ s.1 (q + 10) j = 0) ∧ ∀ j, fm ≤ j → j < 384 → s.1 (q + 18) j = 0 ∧ s.1 (q + 20) j = 0
/-- the rows of the CLASSES read -/
def CI (T : TT) (q : Nat) (s : mjSt3) (L : List CD) : Prop := s.1 q 0 = nI L.length ∧ s.1 (q + 14) 0 = nI (nMem L) ∧ Fr q L.length (nMem L) s ∧ ∀ (c : Nat) (D : CD), L[c]? = some D → CF T q c (nMem (L.take c)) s D
theorem MF.off {q ci c m num fm : Nat} {s s' : mjSt3} {md : MD} (hq : isP q) (h : MF q c m num s md) (o : offR q ci fm s s') (hm : m < fm) : MF q c m num s' md := by
  have hq' : q = 2 ∨ q = 30 := hq
  obtain ⟨a1, a2, a3, a4, a5, a6, a7, a8⟩ := h
  refine ⟨?_, ?_, ?_, ?_, ?_, ?_, ?_, fun t => ⟨?_, ?_⟩⟩
  · rw [o.1 (q + 16) m (by unfold chR; omega), a1]
  · rw [o.1 68 m (by unfold chR; omega), a2]
  · rw [o.1 69 m (by unfold chR; omega), a3]
  · rw [o.2.1 (q + 15) m (by omega), o.2.1 62 md.2.1 (by omega), a4]
  · rw [o.1 (q + 18) m (by unfold chR; omega), a5]
  · rw [o.1 (q + 19) m (by unfold chR; omega), a6]
  · rw [o.1 (q + 20) m (by unfold chR; omega), a7]
  · rw [o.1 70 m (by unfold chR; omega), (a8 t).1]
  · rw [o.1 (q + 22) m (by unfold chR; omega), (a8 t).2]
theorem CF.off {T : TT} {q ci c fm f2 : Nat} {s s' : mjSt3} {D : CD} (hq : isP q) (h : CF T q c f2 s D) (o : offR q ci fm s s') (hc : c < ci) (hm : f2 + D.2.length ≤ fm) : CF T q c f2 s' D := by
  have hq' : q = 2 ∨ q = 30 := hq
  obtain ⟨⟨a1, a2, a3, a4, a5, a6, a7⟩, b1, b2, b3, b4⟩ := h
  refine ⟨⟨?_, ?_, ?_, ?_, ?_, ?_, ?_⟩, ?_, ?_, ?_, fun j md hj => ?_⟩
  · rw [o.1 (q + 9) c (by unfold chR; omega), a1]
  · rw [o.1 65 c (by unfold chR; omega), a2]
  · rw [o.1 (q + 2) c (by unfold chR; omega), a3]
  · rw [o.1 (q + 1) c (by unfold chR; omega), a4]
  · rw [o.1 66 c (by unfold chR; omega), a5]
  · rw [o.1 (q + 3) c (by unfold chR; omega), a6]
  · rw [o.1 67 c (by unfold chR; omega)]; exact a7
  · rw [o.1 (q + 10) c (by unfold chR; omega), b1]
  · rw [o.1 (q + 6) c (by unfold chR; omega), b2]
  · rw [o.1 (q + 7) c (by unfold chR; omega), b3]
  · have := (List.getElem?_eq_some_iff.mp hj).1
    exact (b4 j md hj).off hq o (by omega)
theorem nMem_take {L : List CD} {c : Nat} {D : CD} (h : L[c]? = some D) : nMem (L.take c) + D.2.length ≤ nMem L := by
  obtain ⟨hc, e⟩ := List.getElem?_eq_some_iff.mp h
  have a : L = L.take c ++ D :: L.drop (c + 1) := by
    rw [← e, ← List.drop_eq_getElem_cons hc, List.take_append_drop]
  have b : nMem L = nMem (L.take c) + (D.2.length + nMem (L.drop (c + 1))) := by
    conv => lhs; rw [a]
    unfold nMem
    rw [List.map_append, List.sum_append, List.map_cons, List.sum_cons]
  omega
/-- while the MEMBERS of CLASS ci are read -/
def MI (T : TT) (q ci fm : Nat) (s : mjSt3) (hd : HD) (l : List MD) : Prop := HF T q ci fm s hd ∧ s.1 q 0 = nI (ci + 1) ∧ s.1 (q + 14) 0 = nI (fm + l.length) ∧ s.1 (q + 10) ci = nI l.length ∧ s.1 (q + 6) ci = nI (cntB true l) ∧ s.1 (q + 7) ci = nI (cntB false l) ∧ MFs q ci fm s l ∧ Fr q (ci + 1) (fm + l.length) s
theorem MI.step {T : TT} {q ci fm : Nat} {s s' : mjSt3} {hd : HD} {l : List MD} {md : MD} (hq : isP q) (h : MI T q ci fm s hd l) (r : memR q ci (fm + l.length) l.length (cntB true l) (cntB false l) s s' md) : MI T q ci fm s' hd (l ++ [md]) := by
  have hq' : q = 2 ∨ q = 30 := hq
  obtain ⟨⟨a1, a2, a3, a4, a5, a6, a7⟩, b1, b2, b3, b4, b5, b6, b7⟩ := h
  obtain ⟨o, r1, r2, r3, r4, r5⟩ := r
  have oR : offR q ci (fm + l.length) s s' := o.R (Nat.le_refl _)
  have el : (l ++ [md]).length = l.length + 1 := by rw [List.length_append]; rfl
  refine ⟨⟨?_, ?_, ?_, ?_, ?_, ?_, ?_⟩, ?_, ?_, ?_, ?_, ?_, fun j x hj => ?_, ⟨fun j h1 h2 => ?_, fun j h1 h2 => ?_⟩⟩
  · rw [o.1 (q + 9) ci (by unfold chM; omega), a1]
  · rw [o.1 65 ci (by unfold chM; omega), a2]
  · rw [o.1 (q + 2) ci (by unfold chM; omega), a3]
  · rw [o.1 (q + 1) ci (by unfold chM; omega), a4]
  · rw [o.1 66 ci (by unfold chM; omega), a5]
  · rw [o.1 (q + 3) ci (by unfold chM; omega), a6]
  · rw [o.1 67 ci (by unfold chM; omega)]; exact a7
  · rw [o.1 q 0 (by unfold chM; omega), b1]
  · rw [r2, el, Nat.add_assoc]
  · rw [r3, el]
  · rw [r4, cntB_app]
    cases md.2.2.1 <;> rfl
  · rw [r5, cntB_app]
    cases md.2.2.1 <;> rfl
  · by_cases hl : j < l.length
    · rw [List.getElem?_append_left hl] at hj
      rw [List.take_append_of_le_length (by omega)]
      exact (b6 j x hj).off hq oR (by omega)
    · have hj' := (List.getElem?_eq_some_iff.mp hj).1
      rw [el] at hj'
      have e : j = l.length := by omega
      subst e
      rw [List.getElem?_append_right (Nat.le_refl _), Nat.sub_self] at hj
      have e2 : md = x := by simpa using hj
      subst e2
      rw [List.take_append_of_le_length (Nat.le_refl _), List.take_length]
      have r1' : MF q ci (fm + l.length) (if md.2.2.1 = true then cntB true l else cntB false l) s' md := r1
      cases hb : md.2.2.1 with
      | true => rw [hb] at r1'; exact r1'
      | false => rw [hb] at r1'; exact r1'
  · obtain ⟨c1, c2, c3, c4, c5⟩ := b7.1 j h1 h2
    rw [o.1 (q + 1) j (by unfold chM; omega), o.1 (q + 3) j (by unfold chM; omega), o.1 (q + 6) j (by unfold chM; omega), o.1 (q + 7) j (by unfold chM; omega), o.1 (q + 10) j (by unfold chM; omega)]
    exact ⟨c1, c2, c3, c4, c5⟩
  · rw [el] at h1
    obtain ⟨c1, c2⟩ := b7.2 j (by omega) h2
    rw [o.1 (q + 18) j (by unfold chM; omega), o.1 (q + 20) j (by unfold chM; omega)]
    exact ⟨c1, c2⟩
end
section
/-! ===== the class reads a TEXT so ===== -/
/-- what may change while a TEXT is read into program q -/
def offL (q : Nat) (s s' : mjSt3) : Prop := (∀ h, ¬ (h = q ∨ (q + 1 ≤ h ∧ h ≤ q + 3) ∨ h = q + 6 ∨ h = q + 7 ∨ h = q + 9 ∨ h = q + 10 ∨ h = q + 14 ∨ h = q + 16 ∨ (q + 18 ≤ h ∧ h ≤ q + 20) ∨ h = q + 22) → ¬ (h = 58 ∨ (63 ≤ h ∧ h ≤ 70)) → s'.1 h = s.1 h) ∧ (∀ h, ¬ h = q + 15 → True → s'.2.1 h = s.2.1 h) ∧ (∀ h, ¬ h = 64 → True → True → s'.2.2 h = s.2.2 h)
theorem offL.rf {q : Nat} {s : mjSt3} : offL q s s := ⟨fun _ _ _ => rfl, fun _ _ _ => rfl, fun _ _ _ _ => rfl⟩
theorem offL.tr {q : Nat} {a b c : mjSt3} (h : offL q a b) (g : offL q b c) : offL q a c :=
  ⟨fun x y z => (g.1 x y z).trans (h.1 x y z), fun x y z => (g.2.1 x y z).trans (h.2.1 x y z), fun x y z w => (g.2.2 x y z w).trans (h.2.2 x y z w)⟩
theorem offR.L {q ci fm : Nat} {s s' : mjSt3} (h : offR q ci fm s s') : offL q s s' := by
  refine ⟨fun x a b => funext fun j => h.1 x j ?_, fun x a b => funext fun j => h.2.1 x j ?_, fun x _ _ _ => by rw [h.2.2]⟩
  · unfold chR; omega
  · omega
theorem eR_L {q : Nat} {s s' : mjSt3} {x : RS} (h : offL q s s') : offL q s (eR s' x) := by
  refine ⟨fun y a b => ?_, fun y a b => ?_, fun y a b c => ?_⟩
  · rw [eR_q (by omega) (by omega) (by omega)]; exact h.1 y a b
  · exact h.2.1 y a b
  · exact h.2.2 y a b c
section MJ62
variable {T : TT} {N q : Nat} {s : mjSt3} {f p o v : Int32} {ag : Nat → Int32}
theorem L44_S (R : mjR) (k20 : Nat → Int32 → mjH → mjU) (n : Nat) (a : Nat) (b c : Int32) (hp : mjH) : L_126_44 R k20 (n + 1) a b c hp = b_126_44 R k20 (L_126_44 R k20 n) a b c hp := rfl
theorem L20_S (R : mjR) (n : Nat) (a : Nat) (b : Int32) (hp : mjH) : L_126_20 R (n + 1) a b hp = b_126_20 R (L_126_20 R n) a b hp := rfl
theorem tyS0 : tyS 0 = false := by decide
theorem n_44 (hT : TH T N s) (hf : ¬ f = 0) {d : Nat} (k20 : Nat → Int32 → mjH → mjU) (n : Nat) (i k : Int32) : L_126_44 (mjF (d + 3)) k20 (n + 1) 64 i k (mjW0 (eR s (N, f, p, o, v, ag))) = k20 64 (i + 1) (mjW0 (eR s (N, f, p, o - 1, v, ag))) := by
  rw [L44_S]
  unfold b_126_44 b_126_69
  have e : rV (mjW0 (eR s (N, f, p, o, v, ag))) 64 8 (bN (mjF (d + 3) 138 [.ref 64, .int 125] (mjW0 (eR s (N, f, p, o, v, ag)))) fun hp1 => k20 64 (i + 1) hp1) = k20 64 (i + 1) (mjW0 (eR s (N, f, p, o - 1, v, ag))) := by
    rw [xV_64, u_closeN hT hf, bN_s]
  rw [e, xV_64, u_tyS hT (Nat.le_refl N), bI_s, i01, hT.2.2.1, tyS0, if_neg (show ¬ false = true by decide), e, ite_self]
/-- the MEMBERS and the } of a CLASS -/
theorem x_mems {D kq i0 ci fm : Nat} {k20 : Nat → Int32 → mjH → mjU} {hd : HD} (hD : 192 ≤ D) (hi : ci < 16) (hfm : fm ≤ 24 * ci) : ∀ (f n : Nat) (z : PM) (s : mjSt3) (v : Int32), TH T N s → RQ q s → MI T q ci fm s hd z.2.1 → f + z.2.1.length = 25 → z.2.1.length ≤ 24 → f < n → z.1 ≤ N → match pMems T (N + 1) kq i0 f z with
    | .inl e => (e.1 = 1 ∨ e.1 = 2 ∨ e.1 = 3) ∧ ∃ s' o' v' ag', L_126_44 (mjF D) k20 n 64 (nI ci) (nI z.2.1.length) (mjW0 (eR s (z.1, 0, p, nI 1, v, rAg z.2.2.2.2 ag))) = k20 64 (nI ci + 1) (mjW0 (eR s' (N, nI e.1, (T e.2).2.1, o', v', ag'))) ∧ offR q ci fm s s'
    | .inr y => y.1 ≤ N ∧ y.2.1.length ≤ 24 ∧ ((T y.1).1 = 125 → y.1 < N ∧ ∃ s' v', L_126_44 (mjF D) k20 n 64 (nI ci) (nI z.2.1.length) (mjW0 (eR s (z.1, 0, p, nI 1, v, rAg z.2.2.2.2 ag))) = k20 64 (nI ci + 1) (mjW0 (eR s' (y.1 + 1, 0, p, nI 0, v', rAg y.2.2.2.2 ag))) ∧ offR q ci fm s s' ∧ MI T q ci fm s' hd y.2.1 ∧ (∀ h, h = q + 16 ∨ h = q + 18 ∨ h = q + 20 → s'.1 h 384 = s.1 h 384)) ∧ (¬ (T y.1).1 = 125 → ∃ s' o' v' ag', L_126_44 (mjF D) k20 n 64 (nI ci) (nI z.2.1.length) (mjW0 (eR s (z.1, 0, p, nI 1, v, rAg z.2.2.2.2 ag))) = k20 64 (nI ci + 1) (mjW0 (eR s' (N, nI (F2 T y.1).1, (T (F2 T y.1).2).2.1, o', v', ag'))) ∧ offR q ci fm s s') := by
  obtain ⟨D, rfl⟩ : ∃ e, D = e + 192 := ⟨D - 192, by omega⟩
  intro f
  induction f with
  | zero => intro n z s v hT hQ hM hf; omega
  | succ f ih =>
    intro n z s v hT hQ hM hf hl hn hz
    obtain ⟨n, rfl⟩ : ∃ x, n = x + 1 := ⟨n - 1, by omega⟩
    rw [L44_S]
    unfold b_126_44 pMems
    rw [if_neg (show ¬ (24 : Int32) < nI z.2.1.length from nI_nlt (a := 24) hl (by omega)), xV_64, u_tyS hT hz, bI_s, i01]
    by_cases hty : tyS (T z.1).1 = true
    · rw [if_pos hty, if_pos hty, xV_64]
      have hM' := hM
      obtain ⟨_, _, b2, b3, b4, b5, _, b7⟩ := hM'
      have hm : fm + z.2.1.length < 384 ∨ z.2.1.length = 24 := by omega
      have zz : fm + z.2.1.length < 384 → s.1 (q + 18) (fm + z.2.1.length) = 0 ∧ s.1 (q + 20) (fm + z.2.1.length) = 0 := fun h => b7.2 _ (Nat.le_refl _) h
      have hx : match pMem T (N + 1) z.2.1.length z.1 (kq + z.2.2.1.length) (i0 + z.2.2.2.1.length) with
          | .inl e => mbOK q ci (fm + z.2.1.length) s T N (mjF (D + 192) 136 [.ref 64, .int (nI ci), .int (nI z.2.1.length)] (mjW0 (eR s (z.1, 0, p, nI 1, v, rAg z.2.2.2.2 ag)))) e
          | .inr r => r.1 ≤ N ∧ ∃ s' v', mjF (D + 192) 136 [.ref 64, .int (nI ci), .int (nI z.2.1.length)] (mjW0 (eR s (z.1, 0, p, nI 1, v, rAg z.2.2.2.2 ag))) = some (none, mjW0 (eR s' (r.1, 0, p, nI 1, v', rAg r.2.2.2.2 (rAg z.2.2.2.2 ag)))) ∧ memR q ci (fm + z.2.1.length) z.2.1.length (cntB true z.2.1) (cntB false z.2.1) s s' r.2.1 := by
        by_cases h24 : z.2.1.length = 24
        · rw [show pMem T (N + 1) z.2.1.length z.1 (kq + z.2.2.1.length) (i0 + z.2.2.2.1.length) = .inl (3, z.1) from if_pos h24]
          have h1 : ¬ (T z.1).1 = 1 := fun e => by rw [e] at hty; exact absurd hty (by decide)
          rw [h24, e_136]
          unfold f_136 b_136_0 b_136_21
          rw [xg_64_2, eR_2, hQ.2.2, ymg_0 hQ.1, if_pos (show nI 24 = 24 from rfl), xg_64_0, xV_58, u_ref3 hT hz h1, bN_s]
          exact ⟨Or.inr (Or.inr rfl), _, _, _, _, rfl, offG.rf⟩
        · have h384 := hm.resolve_right h24
          exact x_mem hT hQ hi (Or.inl h384) hl hz (by omega) hty b2 b3 b4 b5 (zz h384).1 (zz h384).2
      cases hd' : pMem T (N + 1) z.2.1.length z.1 (kq + z.2.2.1.length) (i0 + z.2.2.2.1.length) with
      | inl e =>
        rw [hd'] at hx
        obtain ⟨he, s', o', v', ag', hx, r⟩ := hx
        obtain ⟨n, rfl⟩ : ∃ x, n = x + 1 := ⟨n - 1, by omega⟩
        rw [hx, bN_s, n_44 (d := D + 189) (hT.offM hQ.1 r) (in_n0 he)]
        exact ⟨he, _, _, _, _, rfl, r.R (by omega)⟩
      | inr r =>
        rw [hd'] at hx
        obtain ⟨hr, s', v', hx, m⟩ := hx
        have oR : offR q ci fm s s' := m.1.R (by omega)
        have l24 : z.2.1.length < 24 := by
          have : ¬ z.2.1.length = 24 := by
            intro e
            rw [show pMem T (N + 1) z.2.1.length z.1 (kq + z.2.2.1.length) (i0 + z.2.2.2.1.length) = .inl (3, z.1) from if_pos e] at hd'
            cases hd'
          omega
        rw [hx, bN_s, nI_1, ← rAg_app]
        have el : (z.2.1 ++ [r.2.1]).length = z.2.1.length + 1 := by rw [List.length_append]; rfl
        have k := ih n (r.1, z.2.1 ++ [r.2.1], z.2.2.1 ++ r.2.2.1, z.2.2.2.1 ++ r.2.2.2.1, z.2.2.2.2 ++ r.2.2.2.2) s' v' (hT.off hQ.1 oR) (hQ.off oR) (MI.step hQ.1 hM m) (by rw [el]; omega) (by rw [el]; omega) (by omega) hr
        rw [el] at k
        show match pMems T (N + 1) kq i0 f (r.1, z.2.1 ++ [r.2.1], z.2.2.1 ++ r.2.2.1, z.2.2.2.1 ++ r.2.2.2.1, z.2.2.2.2 ++ r.2.2.2.2) with
          | .inl e => _
          | .inr y => _
        cases hp : pMems T (N + 1) kq i0 f (r.1, z.2.1 ++ [r.2.1], z.2.2.1 ++ r.2.2.1, z.2.2.2.1 ++ r.2.2.2.1, z.2.2.2.2 ++ r.2.2.2.2) with
        | inl e =>
          rw [hp] at k
          obtain ⟨he, s2, o', v2, ag', k, w⟩ := k
          exact ⟨he, s2, o', v2, ag', k, oR.tr w⟩
        | inr y =>
          rw [hp] at k
          refine ⟨k.1, k.2.1, fun h => ?_, fun h => ?_⟩
          · obtain ⟨k1, s2, v2, k2, w, k3, k4⟩ := k.2.2.1 h
            have hq' : q = 2 ∨ q = 30 := hQ.1
            exact ⟨k1, s2, v2, k2, oR.tr w, k3, fun h hh => (k4 h hh).trans (m.1.1 h 384 (by unfold chM; omega))⟩
          · obtain ⟨s2, o', v2, ag', k2, w⟩ := k.2.2.2 h
            exact ⟨s2, o', v2, ag', k2, oR.tr w⟩
    · rw [if_neg hty, if_neg hty]
      unfold b_126_69
      rw [xV_64]
      refine ⟨hz, hl, fun h => ?_, fun h => ?_⟩
      · have hl1 := lt_of hT hz h (by decide)
        rw [u_close (q := 0) hT hz h (by decide), bN_s]
        exact ⟨hl1, s, v, rfl, offR.rf, hM, fun _ _ => rfl⟩
      · rw [u_close2 hT hz h, bN_s]
        exact ⟨s, _, _, _, rfl, offR.rf⟩
end MJ62
end
section
/-! ===== the class reads a TEXT so: CLASSES and main ===== -/
section MJ63
variable {T : TT} {N q : Nat} {s : mjSt3} {f p o v : Int32} {ag : Nat → Int32}
/-- bad at the end of the TEXT -/
def tbOK (q : Nat) (s : mjSt3) (T : TT) (N : Nat) (u : mjU) (e : Nat × Nat) : Prop := (e.1 = 1 ∨ e.1 = 2 ∨ e.1 = 3) ∧ ∃ (s' : mjSt3) (o' v' : Int32) (ag' : Nat → Int32), u = some (none, mjW0 (eR s' (N, nI e.1, (T e.2).2.1, o', v', ag'))) ∧ offL q s s'
theorem w70_L {q : Nat} (hq : isP q) (f : Nat → Int32) : offL q s (uI s 70 f) := by
  have hq' : q = 2 ∨ q = 30 := hq
  exact ⟨fun h _ b => uI_ne _ _ _ _ (by omega), fun _ _ _ => rfl, fun _ _ _ _ => rfl⟩
theorem wq_L {q k : Nat} (hk : k = 22) (f : Nat → Int32) : offL q s (uI s (q + k) f) := ⟨fun h a _ => uI_ne _ _ _ _ (by omega), fun _ _ _ => rfl, fun _ _ _ _ => rfl⟩
theorem TH.w {h : Nat} {f : Nat → Int32} (hT : TH T N s) (h1 : ¬ h = 58) (h2 : ¬ h = 60) (h3 : ¬ h = 61) : TH T N (uI s h f) := by
  obtain ⟨a, b, c, d⟩ := hT
  refine ⟨?_, b, c, fun k hk => ⟨?_, ?_⟩⟩
  · rw [uI_ne _ _ _ _ (fun e => h1 e.symm)]; exact a
  · rw [uI_ne _ _ _ _ (fun e => h2 e.symm)]; exact (d k hk).1
  · rw [uI_ne _ _ _ _ (fun e => h3 e.symm)]; exact (d k hk).2
/-- main, in a bad state -/
theorem n_81 (hT : TH T N s) (hQ : RQ q s) (hf : ¬ f = 0) {d : Nat} : ∃ s' o' v', b_126_81 (mjF (d + 4)) 64 (mjW0 (eR s (N, f, p, o, v, ag))) = some (none, mjW0 (eR s' (N, f, p, o', v', ag))) ∧ offL q s s' := by
  have hq : q = 2 ∨ q = 30 := hQ.1
  have hT1 : TH T N (uI s 70 (upd (s.1 70) 384 (nI N))) := hT.w (by decide) (by decide) (by decide)
  have hT2 : TH T N (uI (uI s 70 (upd (s.1 70) 384 (nI N))) (q + 22) (upd ((uI s 70 (upd (s.1 70) 384 (nI N))).1 (q + 22)) 384 0)) := hT1.w (by omega) (by omega) (by omega)
  have k : b_126_81 (mjF (d + 4)) 64 (mjW0 (eR s (N, f, p, o, v, ag))) = some (none, mjW0 (eR (uI (uI s 70 (upd (s.1 70) 384 (nI N))) (q + 22) (upd ((uI s 70 (upd (s.1 70) 384 (nI N))).1 (q + 22)) 384 0)) (N, f, p, o - 1, 0, ag))) := by
    unfold b_126_81
    rw [xg_64_0, xV_58, u_needN hT hf, bN_s, xp_64_10, wR_v, xg_64_8, xg_64_0, xV_58]
    show bI (mjF (d + 4) 167 [.ref 58] (mjW0 (eR s (N, f, p, o, 0, ag)))) _ = _
    rw [u_now hT (Nat.le_refl N), bI_s, xs_70, if_pos (show mj_in 384 385 = true by decide), show (384 : Int32).toNatClampNeg = 384 from rfl, eR_r (by decide), wR_r (by decide), xV_64, n_block hT1 hf, bN_s, xg_64_2, eR_2, uI_l, hQ.2.2, ymg_8 hQ.1, xg_64_10, eR_v, ys_22 hQ.1, if_pos (show mj_in 384 385 = true by decide), show (384 : Int32).toNatClampNeg = 384 from rfl, eR_p hQ.1 (by omega), wR_p hQ.1 (by omega), xg_64_0, xV_58, u_is hT2 (Nat.le_refl N), bI_s, i01, if_pos hT.2.2.1]
  exact ⟨_, _, _, k, (w70_L hQ.1 _).tr (wq_L (by omega) _)⟩
/-- main -/
theorem x_81 (hT : TH T N s) (hQ : RQ q s) {D c kq i0 : Nat} (hD : 192 ≤ D) (hc : c ≤ N) : match (if (T c).1 = 9 then (match prS T (N + 1) 30 0 0 (c + 1) 0 kq i0 with
      | .inl e => .inl e
      | .inr b => if (T b.1).1 = 0 then .inr b else .inl (F2 T b.1)) else .inl (F2 T c) : PY) with
    | .inl e => tbOK q s T N (b_126_81 (mjF D) 64 (mjW0 (eR s (c, 0, p, nI 0, v, ag)))) e
    | .inr b => b.1 ≤ N ∧ b_126_81 (mjF D) 64 (mjW0 (eR s (c, 0, p, nI 0, v, ag))) = some (none, mjW0 (eR (uI (uI s 70 (upd (s.1 70) 384 (nI (c + 1)))) (q + 22) (upd ((uI s 70 (upd (s.1 70) 384 (nI (c + 1)))).1 (q + 22)) 384 (nI b.2.1))) (b.1, 0, p, nI 0, nI b.2.1, rAg b.2.2.2.2 ag))) := by
  obtain ⟨D, rfl⟩ : ∃ e, D = e + 192 := ⟨D - 192, by omega⟩
  have hq : q = 2 ∨ q = 30 := hQ.1
  by_cases h9 : (T c).1 = 9
  · have hl := lt_of hT hc h9 (by decide)
    have hT1 : TH T N (uI s 70 (upd (s.1 70) 384 (nI (c + 1)))) := hT.w (by decide) (by decide) (by decide)
    rw [if_pos h9]
    unfold b_126_81
    rw [xg_64_0, xV_58, u_need hT hc h9 (by decide), bN_s, xp_64_10, wR_v, xg_64_8, xg_64_0, xV_58]
    have k := (rdS_ok hT1 30 (D + 192) 0 (c + 1) 0 kq i0 p ag (by omega) (by omega) hl (by omega)).1 (by omega)
    rw [show bI (mjF (D + 192) 167 [.ref 58] (mjW0 (eR s ((c + 1, 0, p, nI 0, v, ag).1, (c + 1, 0, p, nI 0, v, ag).2.1, (c + 1, 0, p, nI 0, v, ag).2.2.1, (c + 1, 0, p, nI 0, v, ag).2.2.2.1, 0, (c + 1, 0, p, nI 0, v, ag).2.2.2.2.2)))) = bI (mjF (D + 192) 167 [.ref 58] (mjW0 (eR s (c + 1, 0, p, nI 0, 0, ag)))) from rfl, u_now hT hl, bI_s, xs_70, if_pos (show mj_in 384 385 = true by decide), show (384 : Int32).toNatClampNeg = 384 from rfl, eR_r (by decide), wR_r (by decide), xV_64]
    cases hS : prS T (N + 1) 30 0 0 (c + 1) 0 kq i0 with
    | inl e =>
      rw [hS] at k
      obtain ⟨he, o', v', ag', k⟩ := k
      have hT2 : TH T N (uI (uI s 70 (upd (s.1 70) 384 (nI (c + 1)))) (q + 22) (upd ((uI s 70 (upd (s.1 70) 384 (nI (c + 1)))).1 (q + 22)) 384 v')) := hT1.w (by omega) (by omega) (by omega)
      rw [show mjF (D + 192) 139 [.ref 64] (mjW0 (eR (uI s 70 (upd (s.1 70) 384 (nI (c + 1)))) (c + 1, 0, p, nI 0, 0, ag))) = _ from k, bN_s, xg_64_2, eR_2, uI_l, hQ.2.2, ymg_8 hQ.1, xg_64_10, eR_v, ys_22 hQ.1, if_pos (show mj_in 384 385 = true by decide), show (384 : Int32).toNatClampNeg = 384 from rfl, eR_p hQ.1 (by omega), wR_p hQ.1 (by omega), xg_64_0, xV_58, u_is hT2 (Nat.le_refl N), bI_s, i01, if_pos hT.2.2.1]
      exact ⟨he, _, _, _, _, rfl, (w70_L hQ.1 _).tr (wq_L (by omega) _)⟩
    | inr b =>
      rw [hS] at k
      obtain ⟨hb, k⟩ := k
      have hT2 : TH T N (uI (uI s 70 (upd (s.1 70) 384 (nI (c + 1)))) (q + 22) (upd ((uI s 70 (upd (s.1 70) 384 (nI (c + 1)))).1 (q + 22)) 384 (nI b.2.1))) := hT1.w (by omega) (by omega) (by omega)
      rw [show mjF (D + 192) 139 [.ref 64] (mjW0 (eR (uI s 70 (upd (s.1 70) 384 (nI (c + 1)))) (c + 1, 0, p, nI 0, 0, ag))) = _ from k, bN_s, xg_64_2, eR_2, uI_l, hQ.2.2, ymg_8 hQ.1, xg_64_10, eR_v, ys_22 hQ.1, if_pos (show mj_in 384 385 = true by decide), show (384 : Int32).toNatClampNeg = 384 from rfl, eR_p hQ.1 (by omega), wR_p hQ.1 (by omega), xg_64_0, xV_58, u_is hT2 hb, bI_s, i01]
      by_cases h0 : (T b.1).1 = 0
      · rw [if_pos h0]
        simp only [if_pos h0]
        exact ⟨hb, True.intro⟩
      · rw [if_neg h0, xg_64_0, xV_58, u_ref2 hT2 hb, bN_s]
        simp only [if_neg h0]
        exact ⟨F2_in T _, _, _, _, _, rfl, (w70_L hQ.1 _).tr (wq_L (by omega) _)⟩
  · rw [if_neg h9]
    have hT1 : TH T N (uI s 70 (upd (s.1 70) 384 (nI N))) := hT.w (by decide) (by decide) (by decide)
    have hT2 : TH T N (uI (uI s 70 (upd (s.1 70) 384 (nI N))) (q + 22) (upd ((uI s 70 (upd (s.1 70) 384 (nI N))).1 (q + 22)) 384 0)) := hT1.w (by omega) (by omega) (by omega)
    unfold b_126_81
    rw [xg_64_0, xV_58, u_need2 hT hc h9, bN_s, xp_64_10, wR_v, xg_64_8, xg_64_0, xV_58]
    show tbOK q s T N (bI (mjF (D + 192) 167 [.ref 58] (mjW0 (eR s (N, nI (F2 T c).1, (T (F2 T c).2).2.1, nI 0, 0, ag)))) _) _
    rw [u_now hT (Nat.le_refl N), bI_s, xs_70, if_pos (show mj_in 384 385 = true by decide), show (384 : Int32).toNatClampNeg = 384 from rfl, eR_r (by decide), wR_r (by decide), xV_64, n_block hT1 (F2_n0 T _), bN_s, xg_64_2, eR_2, uI_l, hQ.2.2, ymg_8 hQ.1, xg_64_10, eR_v, ys_22 hQ.1, if_pos (show mj_in 384 385 = true by decide), show (384 : Int32).toNatClampNeg = 384 from rfl, eR_p hQ.1 (by omega), wR_p hQ.1 (by omega), xg_64_0, xV_58, u_is hT2 (Nat.le_refl N), bI_s, i01, if_pos hT.2.2.1]
    exact ⟨F2_in T _, _, _, _, _, rfl, (w70_L hQ.1 _).tr (wq_L (by omega) _)⟩
/-- in a bad state no CLASS begins -/
theorem n_20 (hT : TH T N s) (hQ : RQ q s) (hf : ¬ f = 0) {d : Nat} (n : Nat) (i : Int32) : ∃ s' o' v', L_126_20 (mjF (d + 4)) (n + 1) 64 i (mjW0 (eR s (N, f, p, o, v, ag))) = some (none, mjW0 (eR s' (N, f, p, o', v', ag))) ∧ offL q s s' := by
  obtain ⟨s', o', v', k, r⟩ := n_81 (d := d) (p := p) (o := o) (v := v) (ag := ag) hT hQ hf
  refine ⟨s', o', v', ?_, r⟩
  rw [L20_S]
  unfold b_126_20
  rw [xg_64_0, xV_58, u_is hT (Nat.le_refl N), bI_s, i01, if_neg (kN hT (by decide)), k, ite_self]
end MJ63
end
section
/-! ===== the class reads a TEXT so: all of it ===== -/
section MJ64
variable {T : TT} {N q : Nat} {s : mjSt3} {f p o v : Int32} {ag : Nat → Int32}
theorem CI.bound {L : List CD} (h : ∀ (c : Nat) (D : CD), L[c]? = some D → D.2.length ≤ 24) : nMem L ≤ 24 * L.length := by
  induction L with
  | nil => exact Nat.le_refl 0
  | cons D L ih =>
    have a := h 0 D rfl
    have b := ih (fun c E hc => h (c + 1) E hc)
    have e : nMem (D :: L) = D.2.length + nMem L := rfl
    rw [e, List.length_cons]
    omega
/-- a CLASS is read behind those of L -/
theorem CI.snoc {L : List CD} {s s1 s2 : mjSt3} {hd : HD} {l : List MD} (hq : isP q) (h : CI T q s L) (o : offR q L.length (nMem L) s s2) (m : MI T q L.length (nMem L) s2 hd l) : CI T q s2 (L ++ [(hd, l)]) := by
  obtain ⟨a1, a2, a3, a4, a5, a6, a7, a8⟩ := m
  have el : (L ++ [(hd, l)]).length = L.length + 1 := by rw [List.length_append]; rfl
  refine ⟨?_, ?_, ?_, fun c D hc => ?_⟩
  · rw [a2, el]
  · rw [a3, nMem_app]
  · rw [el, nMem_app]; exact a8
  · by_cases hl : c < L.length
    · rw [List.getElem?_append_left hl] at hc
      rw [List.take_append_of_le_length (by omega)]
      exact (h.2.2.2 c D hc).off hq o hl (nMem_take hc)
    · have hc' := (List.getElem?_eq_some_iff.mp hc).1
      rw [el] at hc'
      have e : c = L.length := by omega
      subst e
      rw [List.getElem?_append_right (Nat.le_refl _), Nat.sub_self] at hc
      have e2 : (hd, l) = D := by simpa using hc
      subst e2
      rw [List.take_append_of_le_length (Nat.le_refl _), List.take_length]
      exact ⟨a1, a4, a5, a6, a7⟩
theorem x_cls {D kq : Nat} (hD : 197 ≤ D) : ∀ (f n : Nat) (z : PC) (s : mjSt3) (v : Int32), TH T N s → RQ q s → CI T q s z.2.1 → (∀ (c : Nat) (E : CD), z.2.1[c]? = some E → E.2.length ≤ 24) → f + z.2.1.length = 17 → z.2.1.length ≤ 16 → f < n → z.1 ≤ N → match pClasses T (N + 1) kq f z with
    | .inl e => tbOK q s T N (L_126_20 (mjF D) n 64 (nI z.2.1.length) (mjW0 (eR s (z.1, 0, p, nI 0, v, rAg z.2.2.2.2 ag)))) e
    | .inr y => y.1 ≤ N ∧ y.2.1.length ≤ 16 ∧ (∀ (c : Nat) (E : CD), y.2.1[c]? = some E → E.2.length ≤ 24) ∧ ∃ s' v', L_126_20 (mjF D) n 64 (nI z.2.1.length) (mjW0 (eR s (z.1, 0, p, nI 0, v, rAg z.2.2.2.2 ag))) = b_126_81 (mjF D) 64 (mjW0 (eR s' (y.1, 0, p, nI 0, v', rAg y.2.2.2.2 ag))) ∧ TH T N s' ∧ RQ q s' ∧ CI T q s' y.2.1 ∧ offL q s s' ∧ (∀ h, h = q + 16 ∨ h = q + 18 ∨ h = q + 20 → s'.1 h 384 = s.1 h 384) := by
  obtain ⟨D, rfl⟩ : ∃ e, D = e + 197 := ⟨D - 197, by omega⟩
  intro f
  induction f with
  | zero => intro n z s v hT hQ hC hB hf; omega
  | succ f ih =>
    intro n z s v hT hQ hC hB hf hl hn hz
    obtain ⟨n, rfl⟩ : ∃ x, n = x + 1 := ⟨n - 1, by omega⟩
    rw [L20_S]
    unfold b_126_20 pClasses
    rw [if_neg (show ¬ (16 : Int32) < nI z.2.1.length from nI_nlt (a := 16) hl (by omega)), xg_64_0, xV_58, u_is hT hz, bI_s, i01]
    by_cases h5 : (T z.1).1 = 5
    · rw [if_pos h5, if_pos h5, xV_64]
      have hbm := CI.bound hB
      have hx := x_head (d := D + 192) (p := p) (v := v) (ag := rAg z.2.2.2.2 ag) hT hQ hl (o := 0) (by omega) hz h5 hC.1 hC.2.1 (fun h => (hC.2.2.1.1 _ (Nat.le_refl _) h).1) (fun h => (hC.2.2.1.1 _ (Nat.le_refl _) h).2.1)
      unfold pClass
      cases hH : pHead T z.2.1.length z.1 with
      | inl e =>
        rw [hH] at hx
        obtain ⟨he, s', o', v', ag', hx, r⟩ := hx
        obtain ⟨n, rfl⟩ : ∃ x, n = x + 1 := ⟨n - 1, by omega⟩
        have hT1 := hT.off hQ.1 r
        have hQ1 := hQ.off r
        obtain ⟨s2, o2, v2, k, w⟩ := n_20 (d := D + 193) (p := (T e.2).2.1) (o := o' - 1) (v := v') (ag := ag') hT1 hQ1 (in_n0 he) n (nI z.2.1.length + 1)
        rw [show mjF (D + 197) 127 [.ref 64, .int (nI z.2.1.length)] (mjW0 (eR s (z.1, 0, p, nI 0, v, rAg z.2.2.2.2 ag))) = _ from hx, bN_s, show mjN = 99999999 + 1 from rfl, n_44 (d := D + 194) hT1 (in_n0 he), k]
        exact ⟨he, s2, o2, v2, ag', rfl, r.L.tr w⟩
      | inr r =>
        rw [hH] at hx
        obtain ⟨hr, s1, hx, o1, hf1, hq1, hk1⟩ := hx
        have h16 : z.2.1.length < 16 := by
          have : ¬ z.2.1.length = 16 := by
            intro e
            rw [show pHead T z.2.1.length z.1 = .inl (3, z.1) from if_pos e] at hH
            cases hH
          omega
        have hT1 := hT.off hQ.1 o1
        have hQ1 := hQ.off o1
        have fr := hC.2.2.1.1 z.2.1.length (Nat.le_refl _) h16
        have hM : MI T q z.2.1.length (nMem z.2.1) s1 r.2 [] := by
          have hq' : q = 2 ∨ q = 30 := hQ.1
          refine ⟨hf1, hq1, ?_, ?_, ?_, ?_, fun j md hj => (by simp at hj), ⟨fun j a b => ?_, fun j a b => ?_⟩⟩
          · rw [hk1.1, hC.2.1]; rfl
          · rw [hk1.2.2.2.1, fr.2.2.2.2]; rfl
          · rw [hk1.2.1, fr.2.2.1]; rfl
          · rw [hk1.2.2.1, fr.2.2.2.1]; rfl
          · have g := hC.2.2.1.1 j (by omega) b
            rw [o1.1 (q + 1) j (by unfold chR; omega), o1.1 (q + 3) j (by unfold chR; omega), hk1.2.1, hk1.2.2.1, hk1.2.2.2.1]
            exact g
          · rw [hk1.2.2.2.2.1, hk1.2.2.2.2.2.1]
            exact hC.2.2.1.2 j a b
        rw [show mjF (D + 197) 127 [.ref 64, .int (nI z.2.1.length)] (mjW0 (eR s (z.1, 0, p, nI 0, v, rAg z.2.2.2.2 ag))) = _ from hx, bN_s]
        have k := x_mems (D := D + 197) (kq := kq + z.2.2.1.length + (hdK r.2).length) (i0 := z.2.2.2.1.length) (p := p) (ag := rAg z.2.2.2.2 ag) (k20 := L_126_20 (mjF (D + 197)) n) (by omega) h16 hbm 25 mjN (r.1, [], [], [], []) s1 v hT1 hQ1 hM rfl (by show 0 ≤ 24; omega) (by unfold mjN; omega) hr
        show match (match (match pMems T (N + 1) (kq + z.2.2.1.length + (hdK r.2).length) z.2.2.2.1.length 25 (r.1, [], [], [], []) with
            | .inl e => .inl e
            | .inr y => if (T y.1).1 = 125 then .inr (y.1 + 1, (r.2, y.2.1), hdK r.2 ++ y.2.2.1, y.2.2.2.1, y.2.2.2.2) else .inl (F2 T y.1) : (Nat × Nat) ⊕ (Nat × CD × List Nat × List Row × List (Nat × Nat))) with
          | .inl e => .inl e
          | .inr r => pClasses T (N + 1) kq f (r.1, z.2.1 ++ [r.2.1], z.2.2.1 ++ r.2.2.1, z.2.2.2.1 ++ r.2.2.2.1, z.2.2.2.2 ++ r.2.2.2.2) : (Nat × Nat) ⊕ PC) with
          | .inl e => _
          | .inr y => _
        cases hP : pMems T (N + 1) (kq + z.2.2.1.length + (hdK r.2).length) z.2.2.2.1.length 25 (r.1, [], [], [], []) with
        | inl e =>
          rw [hP] at k
          obtain ⟨he, s2, o2, v2, ag2, k, w⟩ := k
          obtain ⟨n, rfl⟩ : ∃ x, n = x + 1 := ⟨n - 1, by omega⟩
          obtain ⟨s3, o3, v3, k3, w3⟩ := n_20 (d := D + 193) (p := (T e.2).2.1) (o := o2) (v := v2) (ag := ag2) (hT1.off hQ.1 w) (hQ1.off w) (in_n0 he) n (nI z.2.1.length + 1)
          rw [show L_126_44 (mjF (D + 197)) (L_126_20 (mjF (D + 197)) (n + 1)) mjN 64 (nI z.2.1.length) 0 (mjW0 (eR s1 (r.1, 0, p, nI (0 + 1), v, rAg z.2.2.2.2 ag))) = _ from k, k3]
          exact ⟨he, s3, o3, v3, ag2, rfl, (o1.L.tr w.L).tr w3⟩
        | inr y =>
          rw [hP] at k
          obtain ⟨hy, hy24, kg, kb⟩ := k
          by_cases h125 : (T y.1).1 = 125
          · obtain ⟨hy1, s2, v2, k, w, m2, m384⟩ := kg h125
            simp only [if_pos h125]
            have hT2 := hT1.off hQ.1 w
            have hQ2 := hQ1.off w
            have hC2 : CI T q s2 (z.2.1 ++ [(r.2, y.2.1)]) := CI.snoc (s1 := s1) hQ.1 hC (o1.tr w) m2
            have el : (z.2.1 ++ [(r.2, y.2.1)]).length = z.2.1.length + 1 := by rw [List.length_append]; rfl
            have hB2 : ∀ (c : Nat) (E : CD), (z.2.1 ++ [(r.2, y.2.1)])[c]? = some E → E.2.length ≤ 24 := by
              intro c E hc
              by_cases hl' : c < z.2.1.length
              · rw [List.getElem?_append_left hl'] at hc
                exact hB c E hc
              · have hc' := (List.getElem?_eq_some_iff.mp hc).1
                rw [el] at hc'
                have e : c = z.2.1.length := by omega
                subst e
                rw [List.getElem?_append_right (Nat.le_refl _), Nat.sub_self] at hc
                have e2 : (r.2, y.2.1) = E := by simpa using hc
                subst e2
                exact hy24
            have k2 := ih n (y.1 + 1, z.2.1 ++ [(r.2, y.2.1)], z.2.2.1 ++ (hdK r.2 ++ y.2.2.1), z.2.2.2.1 ++ y.2.2.2.1, z.2.2.2.2 ++ y.2.2.2.2) s2 v2 hT2 hQ2 hC2 hB2 (by rw [el]; omega) (by rw [el]; omega) (by omega) hy1
            rw [el] at k2
            rw [show L_126_44 (mjF (D + 197)) (L_126_20 (mjF (D + 197)) n) mjN 64 (nI z.2.1.length) 0 (mjW0 (eR s1 (r.1, 0, p, nI (0 + 1), v, rAg z.2.2.2.2 ag))) = _ from k, nI_1]
            rw [← rAg_app]
            show match pClasses T (N + 1) kq f (y.1 + 1, z.2.1 ++ [(r.2, y.2.1)], z.2.2.1 ++ (hdK r.2 ++ y.2.2.1), z.2.2.2.1 ++ y.2.2.2.1, z.2.2.2.2 ++ y.2.2.2.2) with
              | .inl e => _
              | .inr y => _
            cases hP2 : pClasses T (N + 1) kq f (y.1 + 1, z.2.1 ++ [(r.2, y.2.1)], z.2.2.1 ++ (hdK r.2 ++ y.2.2.1), z.2.2.2.1 ++ y.2.2.2.1, z.2.2.2.2 ++ y.2.2.2.2) with
            | inl e =>
              rw [hP2] at k2
              obtain ⟨he, s3, o3, v3, ag3, k3, w3⟩ := k2
              exact ⟨he, s3, o3, v3, ag3, k3, (o1.L.tr w.L).tr w3⟩
            | inr y2 =>
              rw [hP2] at k2
              obtain ⟨g1, g2, g3, s3, v3, k3, g4, g5, g6, g7, g8⟩ := k2
              refine ⟨g1, g2, g3, s3, v3, k3, g4, g5, g6, (o1.L.tr w.L).tr g7, fun h hh => ((g8 h hh).trans (m384 h hh)).trans ?_⟩
              rcases hh with hh | hh | hh
              · rw [hh, hk1.2.2.2.2.2.2]
              · rw [hh, hk1.2.2.2.2.1]
              · rw [hh, hk1.2.2.2.2.2.1]
          · obtain ⟨s2, o2, v2, ag2, k, w⟩ := kb h125
            simp only [if_neg h125]
            obtain ⟨n, rfl⟩ : ∃ x, n = x + 1 := ⟨n - 1, by omega⟩
            obtain ⟨s3, o3, v3, k3, w3⟩ := n_20 (d := D + 193) (p := (T (F2 T y.1).2).2.1) (o := o2) (v := v2) (ag := ag2) (hT1.off hQ.1 w) (hQ1.off w) (F2_n0 T y.1) n (nI z.2.1.length + 1)
            rw [show L_126_44 (mjF (D + 197)) (L_126_20 (mjF (D + 197)) (n + 1)) mjN 64 (nI z.2.1.length) 0 (mjW0 (eR s1 (r.1, 0, p, nI (0 + 1), v, rAg z.2.2.2.2 ag))) = _ from k, k3]
            exact ⟨F2_in T _, s3, o3, v3, ag2, rfl, (o1.L.tr w.L).tr w3⟩
    · rw [if_neg h5, if_neg h5]
      exact ⟨hz, hl, hB, s, v, rfl, hT, hQ, hC, offL.rf, fun _ _ => rfl⟩
end MJ64
end
