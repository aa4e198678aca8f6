/-! ===== the class reads STATEMENTS and BLOCKS so ===== -/
section MJ50
variable {T : TT} {d N c : Nat} {s : mjSt3} {f p o v : Int32} {ag : Nat → Int32}
theorem nz0 : narrow .boolean (.int 0) = .int 0 := by rfl
theorem nz1 : narrow .boolean (.int 1) = .int 1 := by rfl
theorem x_set1 (hT : TH T N s) (hc : c ≤ N) {sh : Int32} (h61 : (T c).1 = 61) (hs : sh = 1 ∨ sh = 2) : mjF (d + 3) 151 [.ref 64, .int sh] (mjW0 (eR s (c, 0, p, o, v, ag))) = some (some (.int 1), mjW0 (eR s (c + 1, 0, p, o, v, ag))) := by
  have hl := lt_of hT hc h61 (by decide)
  have e : b_151_22 (mjF (d + 2)) 64 sh (mjW0 (eR s (c, 0, p, o, v, ag))) = some (some (.int 1), mjW0 (eR s (c + 1, 0, p, o, v, ag))) := by
    unfold b_151_22 b_151_27 b_151_49 b_151_50 b_151_77
    rw [xg_64_0, xV_58, u_is hT hc, bI_s, i01, if_neg (show ¬ (T c).1 = 59 from fun e => by rw [h61] at e; exact absurd e (by decide)), if_neg (show ¬ (1 : Int32) = 0 by decide), xg_64_0, xV_58, u_skip hT hl, bN_s, if_pos nz1]
  rw [e_151]
  unfold f_151 b_151_0
  rw [xg_64_0, xV_58, u_is hT hc, bI_s, i01, if_pos h61, e]
  rcases hs with h | h
  · rw [if_pos h]
  · rw [if_neg (by rw [h]; decide), if_pos h]
theorem x_set0 (hT : TH T N s) (hc : c ≤ N) (h59 : (T c).1 = 59) : mjF (d + 3) 151 [.ref 64, .int 3] (mjW0 (eR s (c, 0, p, o, v, ag))) = some (some (.int 0), mjW0 (eR s (c, 0, p, o, v, ag))) := by
  rw [e_151]
  unfold f_151 b_151_0 b_151_26 b_151_27 b_151_50 b_151_77
  rw [xg_64_0, xV_58, u_is hT hc, bI_s, i01, if_neg (show ¬ (T c).1 = 61 from fun e => by rw [h59] at e; exact absurd e (by decide)), xg_64_0, xV_58, u_is hT hc, bI_s, i01, if_pos h59, if_pos rfl, if_pos rfl, if_neg (show ¬ (1 : Int32) = 0 by decide), if_pos nz0]
theorem x_setB (hT : TH T N s) (hc : c ≤ N) {sh : Int32} (h1 : ¬ ((T c).1 = 61 ∧ (sh = 1 ∨ sh = 2))) (h2 : ¬ ((T c).1 = 59 ∧ sh = 3)) : mjF (d + 3) 151 [.ref 64, .int sh] (mjW0 (eR s (c, 0, p, o, v, ag))) = some (some (.int 0), mjW0 (eR s (N, nI (F2 T c).1, (T (F2 T c).2).2.1, o, v, ag))) := by
  have e49 : b_151_49 (mjF (d + 2)) 64 0 (mjW0 (eR s (c, 0, p, o, v, ag))) = some (some (.int 0), mjW0 (eR s (N, nI (F2 T c).1, (T (F2 T c).2).2.1, o, v, ag))) := by
    unfold b_151_49 b_151_50 b_151_77
    rw [if_pos rfl, if_pos rfl, xg_64_0, xV_58, u_ref2 hT hc, bN_s, if_pos nz0]
  have e : b_151_26 (mjF (d + 2)) 64 sh (mjW0 (eR s (c, 0, p, o, v, ag))) = some (some (.int 0), mjW0 (eR s (N, nI (F2 T c).1, (T (F2 T c).2).2.1, o, v, ag))) := by
    unfold b_151_26 b_151_27
    rw [xg_64_0, xV_58, u_is hT hc, bI_s, i01, e49]
    by_cases h59 : (T c).1 = 59
    · rw [if_pos h59, if_neg (fun q => h2 ⟨h59, q⟩)]
    · rw [if_neg h59]
  rw [e_151]
  unfold f_151 b_151_0
  rw [xg_64_0, xV_58, u_is hT hc, bI_s, i01, e]
  by_cases h61 : (T c).1 = 61
  · rw [if_pos h61, if_neg (fun q => h1 ⟨h61, Or.inl q⟩), if_neg (fun q => h1 ⟨h61, Or.inr q⟩)]
  · rw [if_neg h61]
theorem x_setN (hT : TH T N s) (hf : ¬ f = 0) (sh : Int32) : mjF (d + 3) 151 [.ref 64, .int sh] (mjW0 (eR s (N, f, p, o, v, ag))) = some (some (.int 0), mjW0 (eR s (N, f, p, o, v, ag))) := by
  rw [e_151]
  unfold f_151 b_151_0 b_151_26 b_151_27 b_151_49 b_151_50 b_151_77
  rw [xg_64_0, xV_58, u_is hT (Nat.le_refl N), bI_s, i01, if_neg (kN hT (by decide)), xg_64_0, xV_58, u_is hT (Nat.le_refl N), bI_s, i01, if_neg (kN hT (by decide)), if_pos rfl, if_pos rfl, xg_64_0, xV_58, u_refN hT hf, bN_s, if_pos nz0]
/-- readGuarded -/
def gOK (s : mjSt3) (T : TT) (N : Nat) (u : mjU) (p : Int32) (o : Nat) (ag : Nat → Int32) (r : (Nat × Nat) ⊕ (PZ × PB)) : Prop := match r with
  | .inl e => bOK s T N u e
  | .inr yz => yz.2.1 ≤ N ∧ u = some (none, mjW0 (eR s (yz.2.1, 0, p, nI o, nI yz.2.2.1, rAg (yz.1.2.2.2.2 ++ yz.2.2.2.2.2) ag)))
theorem x_grd (hT : TH T N s) {D q td kq i0 : Nat} {bl : Nat → Nat → Nat → Nat → PY} (hD : 110 ≤ D) (hq : q ≤ 12) (hc : c < N) (hb : ∀ (c kq i0 : Nat) (ag : Nat → Int32), c ≤ N → sOK s T N (mjF D 139 [.ref 64] (mjW0 (eR s (c, 0, p, nI q, nI td, ag)))) p q ag (bl c td kq i0)) :
    gOK s T N (mjF (D + 1) 141 [.ref 64] (mjW0 (eR s (c, 0, p, nI q, nI td, ag)))) p q ag (pGrd T (N + 1) bl q c td kq i0) := by
  obtain ⟨D, rfl⟩ : ∃ e, D = e + 110 := ⟨D - 110, by omega⟩
  rw [e_141]
  unfold f_141 b_141_0 pGrd
  rw [xg_64_0, xV_58, u_skip hT hc, bN_s, xV_64]
  by_cases h40 : (T (c + 1)).1 = 40
  · have hl := lt_of hT (c := c + 1) (by omega) h40 (by decide)
    rw [if_pos h40]
    by_cases h12 : q = 12
    · subst h12
      rw [if_pos rfl, u_open3 hT (by omega) h40 (by decide), bN_s, xV_64, n_value hT (by decide), bI_s, xV_64, u_closeN hT (by decide), bN_s, xV_64, n_block hT (by decide), bN_s]
      exact ⟨Or.inr (Or.inr rfl), _, _, _, rfl⟩
    · rw [if_neg h12, u_open hT (by omega) h40 (by decide) (by omega), bN_s, xV_64]
      have h1 := x_val (p := p) (v := nI td) (ag := ag) hT (D := D + 110) (q := q + 1) (c := c + 2) (kq := kq) (by omega) (by omega) (by omega)
      cases hd : prV T (N + 1) (q + 1) (c + 2) kq with
      | inl e =>
        rw [hd] at h1
        obtain ⟨he, w, o', ag', h1⟩ := h1
        rw [h1, bI_s, xV_64, u_closeN hT (in_n0 he), bN_s, xV_64, n_block hT (in_n0 he), bN_s]
        exact ⟨he, _, _, _, rfl⟩
      | inr y =>
        rw [hd] at h1
        obtain ⟨hy, h1⟩ := h1
        rw [h1, bI_s, xV_64]
        by_cases h41 : (T y.1).1 = 41
        · have hl2 := lt_of hT hy h41 (by decide)
          rw [u_close hT hy h41 (by decide), bN_s, xV_64]
          simp only [if_pos h41]
          have h2 := hb (y.1 + 1) (kq + y.2.2.1.length) (i0 + y.2.2.2.1.length + 1) (rAg y.2.2.2.2 ag) hl2
          cases hd2 : bl (y.1 + 1) td (kq + y.2.2.1.length) (i0 + y.2.2.2.1.length + 1) with
          | inl e =>
            rw [hd2] at h2
            obtain ⟨he, o', v', ag', h2⟩ := h2
            rw [h2, bN_s]
            exact ⟨he, _, _, _, rfl⟩
          | inr z =>
            rw [hd2] at h2
            obtain ⟨hz, h2⟩ := h2
            rw [h2, bN_s, ← rAg_app]
            exact ⟨hz, rfl⟩
        · rw [u_close2 hT hy h41, bN_s, xV_64, n_block hT (F2_n0 T _), bN_s]
          simp only [if_neg h41]
          exact ⟨F2_in T _, _, _, _, rfl⟩
  · rw [if_neg h40, u_open2 hT (by omega) h40, bN_s, xV_64, n_value hT (F2_n0 T _), bI_s, xV_64, u_closeN hT (F2_n0 T _), bN_s, xV_64, n_block hT (F2_n0 T _), bN_s]
    exact ⟨F2_in T _, _, _, _, rfl⟩
/-- the STATEMENTS of a BLOCK and its } -/
theorem lq_139 (hT : TH T N s) {D q kq i0 : Nat} {rd : Nat → Nat → Nat → Nat → PY} (hD : 4 ≤ D) (hr : ∀ (c td kq i0 : Nat) (ag : Nat → Int32), c ≤ N → td ≤ 16 → sOK s T N (mjF D 140 [.ref 64] (mjW0 (eR s (c, 0, p, nI (q + 1), nI td, ag)))) p (q + 1) ag (rd c td kq i0)) (h16 : ∀ (c td kq i0 : Nat) (y : PB), td ≤ 16 → rd c td kq i0 = .inr y → y.2.1 ≤ 16) :
    ∀ (k i n : Nat) (z : PB), i + k = N + 1 → k < n → z.1 ≤ N → z.2.1 ≤ 16 → sOK s T N (L_139_8 (mjF D) n 64 (nI i) (mjW0 (eR s (z.1, 0, p, nI (q + 1), nI z.2.1, rAg z.2.2.2.2 ag)))) p q ag (match pSeq T rd kq i0 k z with
      | .inl e => .inl e
      | .inr z => if (T z.1).1 = 125 then .inr (z.1 + 1, z.2.1, z.2.2.1, z.2.2.2.1 ++ [(27, (T (z.1 + 1)).2.1, 0, 0, 0)], z.2.2.2.2) else .inl (F2 T z.1)) := by
  obtain ⟨D, rfl⟩ : ∃ e, D = e + 4 := ⟨D - 4, by omega⟩
  have h3 := hT.2.1
  have fin : ∀ z : PB, z.1 ≤ N → sOK s T N (b_139_51 (mjF (D + 4)) 64 (mjW0 (eR s (z.1, 0, p, nI (q + 1), nI z.2.1, rAg z.2.2.2.2 ag)))) p q ag (if (T z.1).1 = 125 then .inr (z.1 + 1, z.2.1, z.2.2.1, z.2.2.2.1 ++ [(27, (T (z.1 + 1)).2.1, 0, 0, 0)], z.2.2.2.2) else .inl (F2 T z.1)) := by
    intro z hz
    unfold b_139_51
    rw [xV_64]
    by_cases h125 : (T z.1).1 = 125
    · have hl := lt_of hT hz h125 (by decide)
      rw [if_pos h125, u_close hT hz h125 (by decide), bN_s]
      exact ⟨hl, rfl⟩
    · rw [if_neg h125, u_close2 hT hz h125, bN_s]
      exact ⟨F2_in T _, _, _, _, rfl⟩
  intro k
  induction k with
  | zero =>
    intro i n z hi hq hz h16z
    obtain ⟨n, rfl⟩ : ∃ m, n = m + 1 := ⟨n - 1, by omega⟩
    rw [L139_S]
    unfold b_139_8 pSeq
    rw [xg_64_0, xV_58, u_size hT hz, bI_s, if_pos (nI_le (by omega) (by omega))]
    exact fin z hz
  | succ k ih =>
    intro i n z hi hq hz h16z
    obtain ⟨n, rfl⟩ : ∃ m, n = m + 1 := ⟨n - 1, by omega⟩
    rw [L139_S]
    unfold b_139_8 pSeq
    rw [xg_64_0, xV_58, u_size hT hz, bI_s, if_neg (nI_ge (by omega) (by omega)), xg_64_0, xV_58, u_is hT hz, bI_s, i01]
    by_cases h125 : (T z.1).1 = 125
    · rw [if_pos h125]
      have := fin z hz
      simp only [if_pos h125] at this ⊢
      exact this
    · rw [if_neg h125, xg_64_0, xV_58, r_fine, bI_s, i01, if_pos (show (0 : Int32) = 0 from rfl), xV_64]
      simp only [if_neg h125]
      have h := hr z.1 z.2.1 (kq + z.2.2.1.length) (i0 + z.2.2.2.1.length) (rAg z.2.2.2.2 ag) hz h16z
      cases hd : rd z.1 z.2.1 (kq + z.2.2.1.length) (i0 + z.2.2.2.1.length) with
      | inl e =>
        rw [hd] at h
        obtain ⟨he, o', v', ag', h⟩ := h
        obtain ⟨n, rfl⟩ : ∃ m, n = m + 1 := ⟨n - 1, by omega⟩
        rw [h, bN_s, n_blk8 hT (in_n0 he)]
        exact ⟨he, _, _, _, rfl⟩
      | inr y =>
        have hy16 := h16 _ _ _ _ _ h16z hd
        rw [hd] at h
        obtain ⟨hy, h⟩ := h
        rw [h, bN_s, nI_1, ← rAg_app]
        exact ih (i + 1) n (y.1, y.2.1, z.2.2.1 ++ y.2.2.1, z.2.2.2.1 ++ y.2.2.2.1, z.2.2.2.2 ++ y.2.2.2.2) (by omega) (by omega) hy hy16
/-- no more than 16 VARIABLES are told -/
theorem pSeq_16 {rd : Nat → Nat → Nat → Nat → PY} {kq i0 : Nat} (h16 : ∀ (c td kq i0 : Nat) (y : PB), td ≤ 16 → rd c td kq i0 = .inr y → y.2.1 ≤ 16) : ∀ (k : Nat) (z y : PB), z.2.1 ≤ 16 → pSeq T rd kq i0 k z = .inr y → y.2.1 ≤ 16
  | 0, z, y, hz, h => by
    cases h
    exact hz
  | k + 1, z, y, hz, h => by
    unfold pSeq at h
    by_cases g : (T z.1).1 = 125
    · rw [if_pos g] at h
      cases h
      exact hz
    · rw [if_neg g] at h
      cases hd : rd z.1 z.2.1 (kq + z.2.2.1.length) (i0 + z.2.2.2.1.length) with
      | inl e => rw [hd] at h; cases h
      | inr w =>
        rw [hd] at h
        have hw := h16 _ _ _ _ w hz hd
        exact pSeq_16 (kq := kq) (i0 := i0) h16 k (w.1, w.2.1, z.2.2.1 ++ w.2.2.1, z.2.2.2.1 ++ w.2.2.2.1, z.2.2.2.2 ++ w.2.2.2.2) y hw h
end MJ50
