/-! ===== the class reads an E so ===== -/
/-- arguments' numbers put into their row -/
def rAg (l : List (Nat × Nat)) (ag : Nat → Int32) : Nat → Int32 := l.foldl (fun a e => upd a e.1 (nI e.2)) ag
theorem rAg_app (l m : List (Nat × Nat)) (ag : Nat → Int32) : rAg (l ++ m) ag = rAg m (rAg l ag) := List.foldl_append
/-- behind a step that reads an E or a part of it -/
def eOK (s : mjSt3) (T : TT) (N : Nat) (u : mjU) (p o v : Int32) (ag : Nat → Int32) (r : PX) : Prop := match r with
  | .inl e => (e.1 = 1 ∨ e.1 = 2 ∨ e.1 = 3) ∧ ∃ (w o' : Int32) (ag' : Nat → Int32), u = some (some (.int w), mjW0 (eR s (N, nI e.1, (T e.2).2.1, o', v, ag')))
  | .inr z => z.1 ≤ N ∧ u = some (some (.int z.2.1), mjW0 (eR s (z.1, 0, p, o, v, rAg z.2.2.2.2 ag)))
section MJ47
variable {T : TT} {d N c : Nat} {s : mjSt3} {f p o v : Int32} {ag : Nat → Int32}
theorem u_size (hT : TH T N s) (hc : c ≤ N) : mjF (d + 1) 171 [.ref 58] (mjW0 (eR s (c, f, p, o, v, ag))) = some (some (.int (nI (N + 1))), mjW0 (eR s (c, f, p, o, v, ag))) := r_size hT.tb (show (c, f, p, o, v, ag).1 ≤ N from hc)
theorem u_now (hT : TH T N s) (hc : c ≤ N) : mjF (d + 1) 167 [.ref 58] (mjW0 (eR s (c, f, p, o, v, ag))) = some (some (.int (nI c)), mjW0 (eR s (c, f, p, o, v, ag))) := r_now hT.tb (show (c, f, p, o, v, ag).1 ≤ N from hc)
theorem dec_1 {P : Prop} [Decidable P] : (if decide P = true then (1 : Int32) else 0) = if P then 1 else 0 := by
  by_cases h : P <;> simp [h]
theorem u_cmp (hT : TH T N s) (hc : c ≤ N) : mjF (d + 2) 177 [.ref 58] (mjW0 (eR s (c, f, p, o, v, ag))) = some (some (.int (if isCmp (T c).1 = true then 1 else 0)), mjW0 (eR s (c, f, p, o, v, ag))) := by
  rw [r_compare hT.tb (show (c, f, p, o, v, ag).1 ≤ N from hc), (hT.2.2.2 c hc).1]
  unfold isCmp
  rw [dec_1]
theorem u_sum (hT : TH T N s) (hc : c ≤ N) : mjF (d + 2) 176 [.ref 58] (mjW0 (eR s (c, f, p, o, v, ag))) = some (some (.int (if isSum (T c).1 = true then 1 else 0)), mjW0 (eR s (c, f, p, o, v, ag))) := by
  rw [r_sum hT.tb (show (c, f, p, o, v, ag).1 ≤ N from hc), (hT.2.2.2 c hc).1]
  unfold isSum
  rw [dec_1]
theorem u_pro (hT : TH T N s) (hc : c ≤ N) : mjF (d + 2) 175 [.ref 58] (mjW0 (eR s (c, f, p, o, v, ag))) = some (some (.int (if isPro (T c).1 = true then 1 else 0)), mjW0 (eR s (c, f, p, o, v, ag))) := by
  rw [r_product hT.tb (show (c, f, p, o, v, ag).1 ≤ N from hc), (hT.2.2.2 c hc).1]
  unfold isPro
  rw [dec_1]
theorem u_val (hT : TH T N s) (hc : c ≤ N) : mjF (d + 2) 149 [.ref 64] (mjW0 (eR s (c, f, p, o, v, ag))) = some (some (.int (if isVal (T c).1 = true then 1 else 0)), mjW0 (eR s (c, f, p, o, v, ag))) := by
  rw [e_149]
  unfold f_149 b_149_0 b_149_72
  rw [xg_64_0, xV_58, u_kind hT hc, bI_s]
  unfold isVal
  rw [dec_1]
  generalize (T c).1 = k
  by_cases h1 : k = 3
  · rw [if_pos h1, if_pos (Or.inl h1)]
  by_cases h2 : k = 4
  · rw [if_neg h1, if_pos h2, if_pos (Or.inr (Or.inl h2))]
  by_cases h3 : k = 11
  · rw [if_neg h1, if_neg h2, if_pos h3, if_pos (Or.inr (Or.inr (Or.inl h3)))]
  by_cases h4 : k = 12
  · rw [if_neg h1, if_neg h2, if_neg h3, if_pos h4, if_pos (Or.inr (Or.inr (Or.inr (Or.inl h4))))]
  by_cases h5 : k = 14
  · rw [if_neg h1, if_neg h2, if_neg h3, if_neg h4, if_pos h5, if_pos (Or.inr (Or.inr (Or.inr (Or.inr (Or.inl h5)))))]
  by_cases h6 : k = 40
  · rw [if_neg h1, if_neg h2, if_neg h3, if_neg h4, if_neg h5, if_pos h6, if_pos (Or.inr (Or.inr (Or.inr (Or.inr (Or.inr (Or.inl h6))))))]
  by_cases h7 : k = 45
  · rw [if_neg h1, if_neg h2, if_neg h3, if_neg h4, if_neg h5, if_neg h6, if_pos h7, if_pos (Or.inr (Or.inr (Or.inr (Or.inr (Or.inr (Or.inr h7))))))]
  rw [if_neg h1, if_neg h2, if_neg h3, if_neg h4, if_neg h5, if_neg h6, if_neg h7, if_neg (fun q => q.elim h1 (fun q => q.elim h2 (fun q => q.elim h3 (fun q => q.elim h4 (fun q => q.elim h5 (fun q => q.elim h6 h7))))))]
theorem u_setArg (hT : TH T N s) {t : Nat} (ht : t ≤ N) (m : Int32) : mjF (d + 1) 174 [.ref 58, .int (nI t), .int m] (mjW0 (eR s (c, f, p, o, v, ag))) = some (none, mjW0 (eR s (c, f, p, o, v, upd ag t m))) := by
  have h3 := hT.2.1
  rw [e_174]
  unfold f_174 b_174_0
  rw [if_neg (nI_pos (by omega)), xg_58_5, eR_5, hT.1, if_neg (nI_ge (by omega) (by omega)), xg_58_4, xs_63, if_pos (mj_in_nI (by omega) (by decide)), nI_clamp (by omega), eR_63, wR_a]
/-! in a bad state nothing is read -/
theorem kN (hT : TH T N s) {k : Int32} (h : ¬ k = 0) : ¬ (T N).1 = k := fun e => h (e.symm.trans hT.2.2.1)
theorem n_atom (hT : TH T N s) (hf : ¬ f = 0) : mjF (d + 2) 147 [.ref 64] (mjW0 (eR s (N, f, p, o, v, ag))) = some (some (.int 0), mjW0 (eR s (N, f, p, o, v, ag))) := by
  rw [e_147]
  unfold f_147 b_147_0
  rw [xg_64_0, xV_58, u_kind hT (Nat.le_refl N), bI_s, if_neg (kN hT (by decide)), if_neg (kN hT (by decide)), if_neg (kN hT (by decide)), if_neg (kN hT (by decide)), if_neg (kN hT (by decide)), if_neg (kN hT (by decide)), xg_64_0, xV_58, u_refN hT hf, bN_s]
theorem L146_S (R : mjR) (n : Nat) (a : Nat) (b c : Int32) (hp : mjH) : L_146_7 R (n + 1) a b c hp = b_146_7 R (L_146_7 R n) a b c hp := rfl
theorem L143_S (R : mjR) (n : Nat) (a : Nat) (b c : Int32) (hp : mjH) : L_143_7 R (n + 1) a b c hp = b_143_7 R (L_143_7 R n) a b c hp := rfl
theorem L144_S (R : mjR) (n : Nat) (a : Nat) (b c : Int32) (hp : mjH) : L_144_7 R (n + 1) a b c hp = b_144_7 R (L_144_7 R n) a b c hp := rfl
theorem L148_S (R : mjR) (n : Nat) (a : Nat) (b c e g : Int32) (hp : mjH) : L_148_37 R (n + 1) a b c e g hp = b_148_37 R (L_148_37 R n) a b c e g hp := rfl
theorem n_post7 (hT : TH T N s) (q : Nat) (b i : Int32) : L_146_7 (mjF (d + 2)) (q + 1) 64 b i (mjW0 (eR s (N, f, p, o, v, ag))) = some (some (.int b), mjW0 (eR s (N, f, p, o, v, ag))) := by
  rw [L146_S]
  unfold b_146_7 b_146_113
  rw [xg_64_0, xV_58, u_size hT (Nat.le_refl N), bI_s, xg_64_0, xV_58, u_is hT (Nat.le_refl N), bI_s, i01, if_neg (kN hT (by decide)), xg_64_0, xV_58, u_is hT (Nat.le_refl N), bI_s, i01, if_neg (kN hT (by decide)), ite_self]
theorem n_post (hT : TH T N s) (hf : ¬ f = 0) : mjF (d + 3) 146 [.ref 64] (mjW0 (eR s (N, f, p, o, v, ag))) = some (some (.int 0), mjW0 (eR s (N, f, p, o, v, ag))) := by
  rw [e_146]
  unfold f_146 b_146_0
  rw [xV_64, n_atom hT hf, bI_s, show mjN = 99999999 + 1 from rfl, n_post7 hT]
theorem n_unit (hT : TH T N s) (hf : ¬ f = 0) : mjF (d + 4) 145 [.ref 64] (mjW0 (eR s (N, f, p, o, v, ag))) = some (some (.int 0), mjW0 (eR s (N, f, p, o, v, ag))) := by
  rw [e_145]
  unfold f_145 b_145_0
  rw [xg_64_0, xV_58, u_is hT (Nat.le_refl N), bI_s, i01, if_neg (kN hT (by decide)), xV_64, n_post hT hf, bI_s]
theorem sg0 : isSum 0 = false ∧ isPro 0 = false ∧ isCmp 0 = false ∧ isVal 0 = false := by decide
theorem n_pro7 (hT : TH T N s) (q : Nat) (b i : Int32) : L_144_7 (mjF (d + 2)) (q + 1) 64 b i (mjW0 (eR s (N, f, p, o, v, ag))) = some (some (.int b), mjW0 (eR s (N, f, p, o, v, ag))) := by
  rw [L144_S]
  unfold b_144_7 b_144_48
  rw [xg_64_0, xV_58, u_size hT (Nat.le_refl N), bI_s, xg_64_0, xV_58, u_pro hT (Nat.le_refl N), bI_s, i01, hT.2.2.1, sg0.2.1, if_neg (show ¬ false = true by decide), ite_self]
theorem n_pro (hT : TH T N s) (hf : ¬ f = 0) : mjF (d + 5) 144 [.ref 64] (mjW0 (eR s (N, f, p, o, v, ag))) = some (some (.int 0), mjW0 (eR s (N, f, p, o, v, ag))) := by
  rw [e_144]
  unfold f_144 b_144_0
  rw [xV_64, n_unit hT hf, bI_s, show mjN = 99999999 + 1 from rfl, n_pro7 hT]
theorem n_sum7 (hT : TH T N s) (q : Nat) (b i : Int32) : L_143_7 (mjF (d + 2)) (q + 1) 64 b i (mjW0 (eR s (N, f, p, o, v, ag))) = some (some (.int b), mjW0 (eR s (N, f, p, o, v, ag))) := by
  rw [L143_S]
  unfold b_143_7 b_143_48
  rw [xg_64_0, xV_58, u_size hT (Nat.le_refl N), bI_s, xg_64_0, xV_58, u_sum hT (Nat.le_refl N), bI_s, i01, hT.2.2.1, sg0.1, if_neg (show ¬ false = true by decide), ite_self]
theorem n_sum (hT : TH T N s) (hf : ¬ f = 0) : mjF (d + 6) 143 [.ref 64] (mjW0 (eR s (N, f, p, o, v, ag))) = some (some (.int 0), mjW0 (eR s (N, f, p, o, v, ag))) := by
  rw [e_143]
  unfold f_143 b_143_0
  rw [xV_64, n_pro hT hf, bI_s, show mjN = 99999999 + 1 from rfl, n_sum7 hT]
theorem n_value (hT : TH T N s) (hf : ¬ f = 0) : mjF (d + 7) 142 [.ref 64] (mjW0 (eR s (N, f, p, o, v, ag))) = some (some (.int 0), mjW0 (eR s (N, f, p, o, v, ag))) := by
  rw [e_142]
  unfold f_142 b_142_0
  rw [xV_64, n_sum hT hf, bI_s, xg_64_0, xV_58, u_cmp hT (Nat.le_refl N), bI_s, i01, hT.2.2.1, sg0.2.2.1, if_neg (show ¬ false = true by decide)]
theorem n_args (hT : TH T N s) (hf : ¬ f = 0) {t : Nat} (ht : t ≤ N) (q : Nat) (m k : Int32) : L_148_37 (mjF (d + 3)) (q + 1) 64 (nI t) m 0 k (mjW0 (eR s (N, f, p, o, v, ag))) = some (some (.int 3), mjW0 (eR s (N, f, p, o - 1, v, upd ag t m))) := by
  rw [L148_S]
  unfold b_148_37 b_148_105
  rw [xV_64, u_closeN hT hf, bN_s, xg_64_0, xV_58, u_setArg hT ht, bN_s, if_pos rfl, ite_self]
/-! the loops -/
theorem lq_143 (hT : TH T N s) {D kq q0 : Nat} {rd : Nat → Nat → PX} (hD : 3 ≤ D) (hr : ∀ (c kq : Nat) (ag : Nat → Int32), c ≤ N → eOK s T N (mjF D 144 [.ref 64] (mjW0 (eR s (c, 0, p, nI q0, v, ag)))) p (nI q0) v ag (rd c kq)) :
    ∀ (k i q : Nat) (z : PZ), i + k = N + 1 → k < q → z.1 ≤ N → eOK s T N (L_143_7 (mjF D) q 64 z.2.1 (nI i) (mjW0 (eR s (z.1, 0, p, nI q0, v, rAg z.2.2.2.2 ag)))) p (nI q0) v ag (pLoop T isSum rd kq k z) := by
  obtain ⟨D, rfl⟩ : ∃ e, D = e + 3 := ⟨D - 3, by omega⟩
  have h3 := hT.2.1
  intro k
  induction k with
  | zero =>
    intro i q z hi hq hz
    obtain ⟨q, rfl⟩ : ∃ n, q = n + 1 := ⟨q - 1, by omega⟩
    rw [L143_S]
    unfold b_143_7 b_143_48 pLoop
    rw [xg_64_0, xV_58, u_size hT hz, bI_s, if_pos (nI_le (by omega) (by omega))]
    exact ⟨hz, rfl⟩
  | succ k ih =>
    intro i q z hi hq hz
    obtain ⟨q, rfl⟩ : ∃ n, q = n + 1 := ⟨q - 1, by omega⟩
    rw [L143_S]
    unfold b_143_7 b_143_48 pLoop
    rw [xg_64_0, xV_58, u_size hT hz, bI_s, if_neg (nI_ge (by omega) (by omega)), xg_64_0, xV_58, u_sum hT hz, bI_s, i01]
    by_cases g : isSum (T z.1).1 = true
    · have hl : z.1 < N := lt_of hT hz rfl (fun e => by rw [e] at g; exact absurd g (by decide))
      rw [if_pos g, if_pos g, xg_64_0, xV_58, u_skip hT hl, bN_s, xV_64]
      have h := hr (z.1 + 1) (kq + z.2.2.1.length) (rAg z.2.2.2.2 ag) hl
      cases hd : rd (z.1 + 1) (kq + z.2.2.1.length) with
      | inl e =>
        rw [hd] at h
        obtain ⟨he, w, o', ag', h⟩ := h
        obtain ⟨q, rfl⟩ : ∃ n, q = n + 1 := ⟨q - 1, by omega⟩
        rw [h, bI_s, n_sum7 hT]
        exact ⟨he, _, _, _, rfl⟩
      | inr y =>
        rw [hd] at h
        obtain ⟨hy, h⟩ := h
        rw [h, bI_s, nI_1, ← rAg_app]
        exact ih (i + 1) q (y.1, 0, z.2.2.1 ++ y.2.2.1, z.2.2.2.1 ++ y.2.2.2.1 ++ [oTwo T z.1], z.2.2.2.2 ++ y.2.2.2.2) (by omega) (by omega) hy
    · rw [if_neg g, if_neg g]
      exact ⟨hz, rfl⟩
theorem lq_144 (hT : TH T N s) {D kq q0 : Nat} {rd : Nat → Nat → PX} (hD : 3 ≤ D) (hr : ∀ (c kq : Nat) (ag : Nat → Int32), c ≤ N → eOK s T N (mjF D 145 [.ref 64] (mjW0 (eR s (c, 0, p, nI q0, v, ag)))) p (nI q0) v ag (rd c kq)) :
    ∀ (k i q : Nat) (z : PZ), i + k = N + 1 → k < q → z.1 ≤ N → eOK s T N (L_144_7 (mjF D) q 64 z.2.1 (nI i) (mjW0 (eR s (z.1, 0, p, nI q0, v, rAg z.2.2.2.2 ag)))) p (nI q0) v ag (pLoop T isPro rd kq k z) := by
  obtain ⟨D, rfl⟩ : ∃ e, D = e + 3 := ⟨D - 3, by omega⟩
  have h3 := hT.2.1
  intro k
  induction k with
  | zero =>
    intro i q z hi hq hz
    obtain ⟨q, rfl⟩ : ∃ n, q = n + 1 := ⟨q - 1, by omega⟩
    rw [L144_S]
    unfold b_144_7 b_144_48 pLoop
    rw [xg_64_0, xV_58, u_size hT hz, bI_s, if_pos (nI_le (by omega) (by omega))]
    exact ⟨hz, rfl⟩
  | succ k ih =>
    intro i q z hi hq hz
    obtain ⟨q, rfl⟩ : ∃ n, q = n + 1 := ⟨q - 1, by omega⟩
    rw [L144_S]
    unfold b_144_7 b_144_48 pLoop
    rw [xg_64_0, xV_58, u_size hT hz, bI_s, if_neg (nI_ge (by omega) (by omega)), xg_64_0, xV_58, u_pro hT hz, bI_s, i01]
    by_cases g : isPro (T z.1).1 = true
    · have hl : z.1 < N := lt_of hT hz rfl (fun e => by rw [e] at g; exact absurd g (by decide))
      rw [if_pos g, if_pos g, xg_64_0, xV_58, u_skip hT hl, bN_s, xV_64]
      have h := hr (z.1 + 1) (kq + z.2.2.1.length) (rAg z.2.2.2.2 ag) hl
      cases hd : rd (z.1 + 1) (kq + z.2.2.1.length) with
      | inl e =>
        rw [hd] at h
        obtain ⟨he, w, o', ag', h⟩ := h
        obtain ⟨q, rfl⟩ : ∃ n, q = n + 1 := ⟨q - 1, by omega⟩
        rw [h, bI_s, n_pro7 hT]
        exact ⟨he, _, _, _, rfl⟩
      | inr y =>
        rw [hd] at h
        obtain ⟨hy, h⟩ := h
        rw [h, bI_s, nI_1, ← rAg_app]
        exact ih (i + 1) q (y.1, 0, z.2.2.1 ++ y.2.2.1, z.2.2.2.1 ++ y.2.2.2.1 ++ [oTwo T z.1], z.2.2.2.2 ++ y.2.2.2.2) (by omega) (by omega) hy
    · rw [if_neg g, if_neg g]
      exact ⟨hz, rfl⟩
end MJ47
