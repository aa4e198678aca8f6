/-! ===== PARAMS ===== -/
def tyS (k : Int32) : Bool := decide (k = 10 ∨ k = 2)
/-- the number of a TYPE's KIND (-1: int), its token -/
def tyK (T : TT) (c kq : Nat) : Int32 := if (T c).1 = 10 then -1 else nI kq
def tyL (T : TT) (c : Nat) : List Nat := if (T c).1 = 10 then [] else [c]
/-- cursor, PARAMS (TYPE's token, NAME's token, KIND), KINDS' tokens -/
abbrev PP : Type := Nat × List (Nat × Nat × Int32) × List Nat
def pPars (T : TT) (kq : Nat) : Nat → PP → (Nat × Nat) ⊕ PP
  | 0, _ => .inl (0, 0)
  | f + 1, z => if tyS (T z.1).1 = true ∧ z.2.1.length = 6 then .inl (3, z.1) else (match pType T z.1 with
    | .inl e => .inl e
    | .inr a => if (T a).1 = 3 then (if (T (a + 1)).1 = 44 then pPars T kq f (a + 2, z.2.1 ++ [(z.1, a, tyK T z.1 (kq + z.2.2.length))], z.2.2 ++ tyL T z.1)
        else if (T (a + 1)).1 = 41 then .inr (a + 2, z.2.1 ++ [(z.1, a, tyK T z.1 (kq + z.2.2.length))], z.2.2 ++ tyL T z.1) else .inl (F2 T (a + 1))) else .inl (F2 T a))
/-! frames -/
def offG (A B : Nat → Nat → Prop) (s s' : mjSt3) : Prop := (∀ h j, ¬ A h j → s'.1 h j = s.1 h j) ∧ (∀ h j, ¬ B h j → s'.2.1 h j = s.2.1 h j) ∧ s'.2.2 = s.2.2
theorem offG.rf {A B : Nat → Nat → Prop} {s : mjSt3} : offG A B s s := ⟨fun _ _ _ => rfl, fun _ _ _ => rfl, rfl⟩
theorem offG.tr {A B : Nat → Nat → Prop} {a b c : mjSt3} (h : offG A B a b) (g : offG A B b c) : offG A B a c :=
  ⟨fun x y z => (g.1 x y z).trans (h.1 x y z), fun x y z => (g.2.1 x y z).trans (h.2.1 x y z), g.2.2.trans h.2.2⟩
theorem offG.mono {A B A' B' : Nat → Nat → Prop} {a b : mjSt3} (h : offG A B a b) (hA : ∀ x y, A x y → A' x y) (hB : ∀ x y, B x y → B' x y) : offG A' B' a b :=
  ⟨fun x y z => h.1 x y (fun q => z (hA x y q)), fun x y z => h.2.1 x y (fun q => z (hB x y q)), h.2.2⟩
theorem offG.w {A B : Nat → Nat → Prop} {h j : Nat} {s : mjSt3} {v : Int32} (hc : A h j) : offG A B s (uI s h (upd (s.1 h) j v)) := by
  refine ⟨fun h' j' n => ?_, fun _ _ _ => rfl, rfl⟩
  by_cases e : h' = h
  · subst e
    rw [uI_same]
    exact if_neg (fun e => n (by rw [e]; exact hc))
  · rw [uI_ne _ _ _ _ e]
theorem offG.wl {A B : Nat → Nat → Prop} {h j : Nat} {s : mjSt3} {v : Int64} (hc : B h j) : offG A B s (uL s h (vp_updL (s.2.1 h) j v)) := by
  refine ⟨fun _ _ _ => rfl, fun h' j' n => ?_, rfl⟩
  by_cases e : h' = h
  · subst e
    rw [uL_same]
    exact if_neg (fun e => n (by rw [e]; exact hc))
  · rw [uL_ne _ _ _ _ e]
/-- what may change while MEMBER m of CLASS ci is read -/
def chM (q ci m h j : Nat) : Prop := (h = q + 14 ∧ j = 0) ∨ ((h = q + 6 ∨ h = q + 7 ∨ h = q + 10) ∧ j = ci) ∨ ((h = 68 ∨ h = 69 ∨ h = 70 ∨ h = q + 16 ∨ h = q + 18 ∨ h = q + 19 ∨ h = q + 20 ∨ h = q + 22) ∧ j = m)
def offM (q ci m : Nat) : mjSt3 → mjSt3 → Prop := offG (chM q ci m) (fun h j => h = q + 15 ∧ j = m)
theorem offM.R {q ci m fm : Nat} {s s' : mjSt3} (h : offM q ci m s s') (hf : fm ≤ m) : offR q ci fm s s' := by
  refine ⟨fun x y n => h.1 x y (fun c => n ?_), fun x y n => h.2.1 x y (fun c => n ⟨c.1, by omega⟩), h.2.2⟩
  rcases c with c | c | c
  · exact Or.inr (Or.inl c)
  · exact Or.inr (Or.inr (Or.inl ⟨by omega, c.2⟩))
  · exact Or.inr (Or.inr (Or.inr ⟨by omega, by omega⟩))
theorem TH.offM {T : TT} {N q ci m : Nat} {s s' : mjSt3} (h : TH T N s) (hq : isP q) (o : offM q ci m s s') : TH T N s' := h.off hq (o.R (Nat.zero_le m))
theorem RQ.offM {q ci m : Nat} {s s' : mjSt3} (h : RQ q s) (o : offM q ci m s s') : RQ q s' := h.off (o.R (Nat.zero_le m))
def mbOK (q ci m : Nat) (s : mjSt3) (T : TT) (N : Nat) (u : mjU) (e : Nat × Nat) : Prop := (e.1 = 1 ∨ e.1 = 2 ∨ e.1 = 3) ∧ ∃ (s' : mjSt3) (o' v' : Int32) (ag' : Nat → Int32), u = some (none, mjW0 (eR s' (N, nI e.1, (T e.2).2.1, o', v', ag'))) ∧ offM q ci m s s'
section MJ57
variable {T : TT} {d N c q ci m : Nat} {s : mjSt3} {f p o v : Int32} {ag : Nat → Int32}
theorem u_tyS (hT : TH T N s) (hc : c ≤ N) : mjF (d + 2) 135 [.ref 64] (mjW0 (eR s (c, f, p, o, v, ag))) = some (some (.int (if tyS (T c).1 = true then 1 else 0)), mjW0 (eR s (c, f, p, o, v, ag))) := by
  rw [e_135]
  unfold f_135 b_135_0 b_135_23 tyS
  rw [dec_1, xg_64_0, xV_58, u_is hT hc, bI_s, i01, xg_64_0, xV_58, u_is hT hc, bI_s, i01]
  by_cases h : (T c).1 = 10
  · rw [if_pos h, if_pos (Or.inl h)]
  · rw [if_neg h]
    by_cases g : (T c).1 = 2
    · rw [if_pos g, if_pos (Or.inr g)]
    · rw [if_neg g, if_neg (fun z => z.elim h g)]
theorem L137_S (R : mjR) (n : Nat) (a : Nat) (b c e : Int32) (hp : mjH) : L_137_26 R (n + 1) a b c e hp = b_137_26 R (L_137_26 R n) a b c e hp := rfl
theorem n_pars (hT : TH T N s) (hf : ¬ f = 0) (n : Nat) (i k : Int32) : L_137_26 (mjF (d + 3)) (n + 1) 64 i 0 k (mjW0 (eR s (N, f, p, o, v, ag))) = some (none, mjW0 (eR s (N, f, p, o - 1, v, ag))) := by
  rw [L137_S]
  unfold b_137_26 b_137_114
  rw [if_pos rfl, ite_self, xV_64, u_closeN hT hf, bN_s]
/-- the base with that many PARAMS -/
def bsP (s : mjSt3) (q m k : Nat) : mjSt3 := uI s (q + 20) (upd (s.1 (q + 20)) m (nI k))
theorem bsP_0 (h : s.1 (q + 20) m = 0) : bsP s q m 0 = s := by
  unfold bsP
  rw [show nI 0 = (0 : Int32) from rfl, upd_id (s.1 (q + 20)) h, uI_self]
theorem bsP_w (k : Nat) (j : Nat) : uI (bsP s q m k) (q + 20) (upd ((bsP s q m k).1 (q + 20)) m (nI j)) = bsP s q m j := by
  unfold bsP
  rw [uI_same, upd_upd, uI_uI]
theorem bsP_off (k : Nat) : offM q ci m s (bsP s q m k) := offG.w (Or.inr (Or.inr ⟨by omega, rfl⟩))
theorem min7 {k : Nat} (hk : k ≤ 6) : (if nI (k + 1) ≤ (6 : Int32) then nI (k + 1) else 6) = nI (min (k + 1) 6) := by
  by_cases h : k + 1 ≤ 6
  · rw [if_pos (show nI (k + 1) ≤ (6 : Int32) from nI_le (b := 6) h (by omega)), Nat.min_eq_left h]
  · have : k = 6 := by omega
    subst this
    rfl
/-- behind a TYPE of PARAMS, in a bad state -/
theorem n_57 (hT : TH T N s) (hQ : RQ q s) (hm : m < 385) {k : Nat} (hk : k ≤ 6) (hf : ¬ f = 0) (n : Nat) : (gR (mjW0 (eR (bsP s q m k) (N, f, p, o, v, ag))) 64 8 0 fun v2 => rV (mjW0 (eR (bsP s q m k) (N, f, p, o, v, ag))) v2 9 (bN (mjF (d + 3) 169 [.ref v2, .int 3] (mjW0 (eR (bsP s q m k) (N, f, p, o, v, ag)))) fun hp3 => gR hp3 64 8 2 fun v4 => gR hp3 v4 6 6 fun v5 => bI (mjF (d + 3) 355 [.int (nI k + 1), .int 6] hp3) fun v6 hp7 => sI hp7 v5 (nI m) v6 fun hp8 => gR hp8 64 8 0 fun v9 => rV hp8 v9 9 (bI (mjF (d + 3) 164 [.ref v9, .int 44] hp8) fun v10 hp11 => if v10 = 0 then b_137_108 (mjF (d + 3)) (L_137_26 (mjF (d + 3)) (n + 1)) 64 (nI m) v10 (nI k) hp11 else gR hp11 64 8 0 fun v12 => rV hp11 v12 9 (bN (mjF (d + 3) 166 [.ref v12] hp11) fun hp13 => b_137_108 (mjF (d + 3)) (L_137_26 (mjF (d + 3)) (n + 1)) 64 (nI m) v10 (nI k) hp13)))) = some (none, mjW0 (eR (bsP s q m (min (k + 1) 6)) (N, f, p, o - 1, v, ag))) := by
  have hT1 := hT.offM hQ.1 (bsP_off (ci := 0) (s := s) (q := q) (m := m) k)
  have hQ1 := hQ.offM (bsP_off (ci := 0) (s := s) (q := q) (m := m) k)
  have hT2 := hT.offM hQ.1 (bsP_off (ci := 0) (s := s) (q := q) (m := m) (min (k + 1) 6))
  rw [xg_64_0, xV_58, u_needN hT1 hf, bN_s, xg_64_2, eR_2, hQ1.2.2, ymg_6 hQ.1, q_min, bI_s, nI_1, min7 hk, ys_20 hQ.1, if_pos (mj_in_nI hm (by decide)), nI_clamp (by omega), eR_p hQ.1 (by omega), wR_p hQ.1 (by omega), bsP_w, xg_64_0, xV_58, u_is hT2 (Nat.le_refl N), bI_s, i01, if_neg (kN hT (by decide)), if_neg (kN hT (by decide))]
  unfold b_137_108
  rw [n_pars hT2 hf]
def psOK (q ci m : Nat) (s : mjSt3) (T : TT) (N : Nat) (u : mjU) (p : Int32) (o : Nat) (v : Int32) (ag : Nat → Int32) (r : (Nat × Nat) ⊕ PP) : Prop := match r with
  | .inl e => mbOK q ci m s T N u e
  | .inr y => y.1 ≤ N ∧ y.2.1.length ≤ 6 ∧ u = some (none, mjW0 (eR (bsP s q m y.2.1.length) (y.1, 0, p, nI o, v, ag)))
theorem x_parsL (hT : TH T N s) (hQ : RQ q s) (hm : m < 385) {o kq : Nat} : ∀ (f n : Nat) (z : PP), f + z.2.1.length = 7 → z.2.1.length ≤ 6 → f + 1 < n → z.1 ≤ N → psOK q ci m s T N (L_137_26 (mjF (d + 3)) n 64 (nI m) 1 (nI z.2.1.length) (mjW0 (eR (bsP s q m z.2.1.length) (z.1, 0, p, nI (o + 1), v, ag)))) p o v ag (pPars T kq f z)
  | 0, n, z, hf, h6, hn, hz => by omega
  | f + 1, n, z, hf, h6, hn, hz => by
    obtain ⟨n, rfl⟩ : ∃ x, n = x + 2 := ⟨n - 2, by omega⟩
    have hT1 := hT.offM hQ.1 (bsP_off (ci := 0) (s := s) (q := q) (m := m) z.2.1.length)
    have hQ1 := hQ.offM (bsP_off (ci := 0) (s := s) (q := q) (m := m) z.2.1.length)
    have hT2 := hT.offM hQ.1 (bsP_off (ci := 0) (s := s) (q := q) (m := m) (min (z.2.1.length + 1) 6))
    rw [L137_S]
    unfold b_137_26 pPars
    rw [if_neg (show ¬ (6 : Int32) < nI z.2.1.length from nI_nlt (a := 6) h6 (by omega)), if_neg (show ¬ (1 : Int32) = 0 by decide)]
    have rest : ¬ (tyS (T z.1).1 = true ∧ z.2.1.length = 6) → psOK q ci m s T N (b_137_57 (mjF (d + 3)) (L_137_26 (mjF (d + 3)) (n + 1)) 64 (nI m) (nI z.2.1.length) (mjW0 (eR (bsP s q m z.2.1.length) (z.1, 0, p, nI (o + 1), v, ag)))) p o v ag (match pType T z.1 with
        | .inl e => .inl e
        | .inr a => if (T a).1 = 3 then (if (T (a + 1)).1 = 44 then pPars T kq f (a + 2, z.2.1 ++ [(z.1, a, tyK T z.1 (kq + z.2.2.length))], z.2.2 ++ tyL T z.1)
            else if (T (a + 1)).1 = 41 then .inr (a + 2, z.2.1 ++ [(z.1, a, tyK T z.1 (kq + z.2.2.length))], z.2.2 ++ tyL T z.1) else .inl (F2 T (a + 1))) else .inl (F2 T a)) := by
      intro hno
      unfold b_137_57
      rw [xV_64]
      have h := x_type (d := d) (p := p) (o := nI (o + 1)) (v := v) (ag := ag) hT1 hz
      cases hd : pType T z.1 with
      | inl e =>
        rw [hd] at h
        obtain ⟨he, h⟩ := h
        rw [h, bN_s, n_57 hT hQ hm h6 (in_n0 he)]
        exact ⟨he, _, _, _, _, rfl, bsP_off _⟩
      | inr a =>
        have hty : tyS (T z.1).1 = true := by
          unfold tyS
          unfold pType at hd
          by_cases h10 : (T z.1).1 = 10
          · exact decide_eq_true (Or.inl h10)
          · rw [if_neg h10] at hd
            unfold pKind at hd
            by_cases h2 : (T z.1).1 = 2
            · exact decide_eq_true (Or.inr h2)
            · rw [if_neg h2] at hd; cases hd
        have l5 : z.2.1.length < 6 := by
          have : ¬ z.2.1.length = 6 := fun e => hno ⟨hty, e⟩
          omega
        have emin : min (z.2.1.length + 1) 6 = z.2.1.length + 1 := Nat.min_eq_left (by omega)
        rw [hd] at h
        obtain ⟨ha, h⟩ := h
        rw [h, bN_s]
        by_cases h3 : (T a).1 = 3
        · have hl := lt_of hT ha h3 (by decide)
          rw [xg_64_0, xV_58, u_need hT1 ha h3 (by decide), bN_s, xg_64_2, eR_2, hQ1.2.2, ymg_6 hQ.1, q_min, bI_s, nI_1, min7 h6, ys_20 hQ.1, if_pos (mj_in_nI hm (by decide)), nI_clamp (by omega), eR_p hQ.1 (by omega), wR_p hQ.1 (by omega), bsP_w, xg_64_0, xV_58, u_is hT2 (c := a + 1) (by omega), bI_s, i01]
          simp only [if_pos h3]
          have el : (z.2.1 ++ [(z.1, a, tyK T z.1 (kq + z.2.2.length))]).length = z.2.1.length + 1 := by rw [List.length_append]; rfl
          by_cases h44 : (T (a + 1)).1 = 44
          · have hl1 := lt_of hT (c := a + 1) (by omega) h44 (by decide)
            rw [if_pos h44, xg_64_0, xV_58, u_skip hT2 hl1, bN_s, if_pos h44]
            simp only [if_pos h44]
            unfold b_137_108
            rw [nI_1, emin]
            have r := x_parsL hT hQ hm (o := o) (kq := kq) f (n + 1) (a + 2, z.2.1 ++ [(z.1, a, tyK T z.1 (kq + z.2.2.length))], z.2.2 ++ tyL T z.1) (by rw [el]; omega) (by rw [el]; omega) (by omega) (by show a + 2 ≤ N; omega)
            rw [el] at r
            exact r
          · rw [if_neg h44, if_neg h44]
            simp only [if_neg h44]
            unfold b_137_108
            rw [nI_1, emin, L137_S]
            rw [emin] at hT2
            unfold b_137_26 b_137_114
            rw [if_pos rfl, ite_self, xV_64]
            by_cases h41 : (T (a + 1)).1 = 41
            · have hl1 := lt_of hT (c := a + 1) (by omega) h41 (by decide)
              rw [u_close hT2 (by omega) h41 (by decide), bN_s]
              simp only [if_pos h41]
              refine ⟨by show a + 2 ≤ N; omega, by rw [el]; omega, ?_⟩
              rw [el]
            · rw [u_close2 hT2 (by omega) h41, bN_s]
              simp only [if_neg h41]
              exact ⟨F2_in T _, _, _, _, _, rfl, bsP_off _⟩
        · rw [xg_64_0, xV_58, u_need2 hT1 ha h3, bN_s]
          have hQ2 := hQ.offM (bsP_off (ci := 0) (s := s) (q := q) (m := m) (min (z.2.1.length + 1) 6))
          rw [xg_64_2, eR_2, hQ1.2.2, ymg_6 hQ.1, q_min, bI_s, nI_1, min7 h6, ys_20 hQ.1, if_pos (mj_in_nI hm (by decide)), nI_clamp (by omega), eR_p hQ.1 (by omega), wR_p hQ.1 (by omega), bsP_w, xg_64_0, xV_58, u_is hT2 (Nat.le_refl N), bI_s, i01, if_neg (kN hT (by decide)), if_neg (kN hT (by decide))]
          unfold b_137_108
          rw [n_pars hT2 (F2_n0 T _)]
          simp only [if_neg h3]
          exact ⟨F2_in T _, _, _, _, _, rfl, bsP_off _⟩
    by_cases e6 : z.2.1.length = 6
    · rw [if_pos (show nI z.2.1.length = 6 by rw [e6]; rfl), xV_64, u_tyS hT1 hz, bI_s, i01]
      by_cases hty : tyS (T z.1).1 = true
      · have h1 : ¬ (T z.1).1 = 1 := fun e => by rw [e] at hty; exact absurd hty (by decide)
        rw [if_pos hty, if_pos ⟨hty, e6⟩, xg_64_0, xV_58, u_ref3 hT1 hz h1, bN_s]
        unfold b_137_57
        rw [xV_64, x_typeN hT1 (by decide), bN_s, n_57 hT hQ hm h6 (by decide)]
        exact ⟨Or.inr (Or.inr rfl), _, _, _, _, rfl, bsP_off _⟩
      · rw [if_neg hty, if_neg (fun e => hty e.1)]
        exact rest (fun e => hty e.1)
    · rw [if_neg (show ¬ nI z.2.1.length = 6 from fun e => e6 ((nI_eq (a := z.2.1.length) (b := 6) (by omega) (by omega)).mp e)), if_neg (fun e => e6 e.2)]
      exact rest (fun e => e6 e.2)
/-- readParams, at its ( -/
def pParams (T : TT) (kq c : Nat) : (Nat × Nat) ⊕ PP := if (T c).1 = 40 then (if (T (c + 1)).1 = 41 then .inr (c + 2, [], []) else pPars T kq 7 (c + 1, [], [])) else .inl (F2 T c)
theorem x_params (hT : TH T N s) (hQ : RQ q s) (hm : m < 385) {o kq : Nat} (ho : o < 12) (hc : c ≤ N) (hz : s.1 (q + 20) m = 0) : psOK q ci m s T N (mjF (d + 4) 137 [.ref 64, .int (nI m)] (mjW0 (eR s (c, 0, p, nI o, v, ag)))) p o v ag (pParams T kq c) := by
  rw [e_137]
  unfold f_137 b_137_0 b_137_23 pParams
  rw [xV_64, show mjN = 99999998 + 2 from rfl]
  by_cases h40 : (T c).1 = 40
  · have hl := lt_of hT hc h40 (by decide)
    rw [if_pos h40, u_open hT hc h40 (by decide) ho, bN_s, xg_64_0, xV_58, u_is hT (c := c + 1) hl, bI_s, i01]
    by_cases h41 : (T (c + 1)).1 = 41
    · have hl1 := lt_of hT (c := c + 1) (by omega) h41 (by decide)
      rw [if_pos h41, if_pos h41, L137_S]
      unfold b_137_26 b_137_114
      rw [if_pos rfl, ite_self, xV_64, u_close hT hl h41 (by decide), bN_s]
      refine ⟨by show c + 2 ≤ N; omega, by show 0 ≤ 6; omega, ?_⟩
      rw [show ([] : List (Nat × Nat × Int32)).length = 0 from rfl, bsP_0 hz]
    · rw [if_neg h41, if_neg h41]
      have r := x_parsL (d := d) (ci := ci) (p := p) (v := v) (ag := ag) hT hQ hm (o := o) (kq := kq) 7 (99999998 + 2) (c + 1, [], []) (by show 7 + 0 = 7; omega) (by show 0 ≤ 6; omega) (by omega) hl
      rw [show ([] : List (Nat × Nat × Int32)).length = 0 from rfl, bsP_0 hz] at r
      exact r
  · rw [if_neg h40, u_open2 hT hc h40, bN_s, xg_64_0, xV_58, u_is hT (Nat.le_refl N), bI_s, i01, if_neg (kN hT (by decide)), L137_S]
    unfold b_137_26
    rw [if_neg (show ¬ (6 : Int32) < 0 by decide), if_neg (show ¬ (1 : Int32) = 0 by decide), if_neg (show ¬ (0 : Int32) = 6 by decide)]
    unfold b_137_57
    have k := n_57 (d := d) (p := (T (F2 T c).2).2.1) (o := nI o) (v := v) (ag := ag) hT hQ hm (k := 0) (by omega) (F2_n0 T c) 99999998
    rw [bsP_0 hz] at k
    rw [xV_64, x_typeN hT (F2_n0 T _), bN_s]
    exact ⟨F2_in T _, _, _, _, _, k, bsP_off _⟩
end MJ57
