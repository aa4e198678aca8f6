/-! ===== Members.clear ===== -/
section MJA55
variable {q d : Nat}
theorem L96_S (R : mjR) (n a : Nat) (b : Int32) (hp : mjH) : L_96_7 R (n + 1) a b hp = b_96_7 R (L_96_7 R n) a b hp := rfl
theorem lq_96 (hq : isP q) (R : mjR) : ∀ (r m n : Nat) (s : mjSt3), m + r = 385 → r < n → ∃ s', L_96_7 R n (q + 14) (nI m) (mjW0 s) = some (none, mjW0 s') ∧ (∀ k, m ≤ k → k < 385 → s'.1 (q + 18) k = b2 (decide (k = 384)) ∧ s'.1 (q + 20) k = 0) ∧ (∀ k, k < m → s'.1 (q + 18) k = s.1 (q + 18) k ∧ s'.1 (q + 20) k = s.1 (q + 20) k) ∧ s'.1 (q + 16) 384 = -1 ∧ s'.1 (q + 17) 384 = -1 ∧ (∀ h, ¬ h = q + 16 → ¬ h = q + 17 → ¬ h = q + 18 → ¬ h = q + 20 → s'.1 h = s.1 h) ∧ s'.2 = s.2
  | r, m, 0, s, e, hr => by omega
  | 0, m, n + 1, s, e, hr => by
    obtain ⟨z1, h1⟩ : ∃ z, z = uI s (q + 16) (upd (s.1 (q + 16)) 384 (-1)) := ⟨_, rfl⟩
    obtain ⟨z2, h2⟩ : ∃ z, z = uI z1 (q + 17) (upd (z1.1 (q + 17)) 384 (-1)) := ⟨_, rfl⟩
    have em : m = 385 := by omega
    subst em
    have r2 : ∀ h, ¬ h = q + 16 → ¬ h = q + 17 → z2.1 h = s.1 h := fun h a b => by rw [h2, uI_ne _ _ _ _ b, h1, uI_ne _ _ _ _ a]
    refine ⟨z2, ?_, fun k a b => by omega, fun k _ => ⟨by rw [r2 _ (by omega) (by omega)], by rw [r2 _ (by omega) (by omega)]⟩, ?_, ?_, fun h a b _ _ => r2 h a b, by rw [h2, h1]; rfl⟩
    · rw [L96_S]
      unfold b_96_7
      rw [if_pos (show (385 : Int32) ≤ nI 385 by decide), ymg_2 hq, show (384 : Int32) = nI 384 from rfl, wys_16 hq (by omega), ← h1, ymg_3 hq, wys_17 hq (by omega), ← h2]
    · rw [h2, uI_ne _ _ _ _ (by omega), h1, uI_same, upd_g, if_pos rfl]
    · rw [h2, uI_same, upd_g, if_pos rfl]
  | r + 1, m, n + 1, s, e, hr => by
    obtain ⟨z1, h1⟩ : ∃ z, z = uI s (q + 18) (upd (s.1 (q + 18)) m (b2 (decide (m = 384)))) := ⟨_, rfl⟩
    obtain ⟨z2, h2⟩ : ∃ z, z = uI z1 (q + 20) (upd (z1.1 (q + 20)) m 0) := ⟨_, rfl⟩
    obtain ⟨s', a1, a2, a3, a4, a5, a6, a7⟩ := lq_96 hq R r (m + 1) n z2 (by omega) (by omega)
    have e18 : z2.1 (q + 18) = upd (s.1 (q + 18)) m (b2 (decide (m = 384))) := by rw [h2, uI_ne _ _ _ _ (by omega), h1, uI_same]
    have e20 : z2.1 (q + 20) = upd (s.1 (q + 20)) m 0 := by rw [h2, uI_same, h1, uI_ne _ _ _ _ (by omega)]
    have r2 : ∀ h, ¬ h = q + 18 → ¬ h = q + 20 → z2.1 h = s.1 h := fun h a b => by rw [h2, uI_ne _ _ _ _ b, h1, uI_ne _ _ _ _ a]
    refine ⟨s', ?_, fun k ka kb => ?_, fun k hk => ?_, a4, a5, fun h x1 x2 x3 x4 => by rw [a6 h x1 x2 x3 x4, r2 h x3 x4], by rw [a7, h2, h1]; rfl⟩
    · rw [L96_S]
      unfold b_96_7 b_96_31
      rw [if_neg (show ¬ (385 : Int32) ≤ nI m from nI_ge (b := 385) (by omega) (by decide)), ymg_4 hq]
      have nt : vp_nar .boolean (b2 true) = b2 true := rfl
      have nf : vp_nar .boolean (b2 false) = b2 false := rfl
      by_cases g : m = 384
      · rw [decide_eq_true g] at h1
        rw [if_pos (show nI m = 384 by rw [g]; rfl), show (1 : Int32) = b2 true from rfl, wys_18 hq (by omega), nt, ← h1, ymg_6 hq, wys_20 hq (by omega), ← h2, show b2 true = (1 : Int32) from rfl, nI_1]
        exact a1
      · rw [decide_eq_false g] at h1
        rw [if_neg (show ¬ nI m = 384 from fun x => g ((nI_eq (b := 384) (by omega) (by decide)).mp x)), show (0 : Int32) = b2 false from rfl, wys_18 hq (by omega), nf, ← h1, ymg_6 hq, show b2 false = (0 : Int32) from rfl, wys_20 hq (by omega), ← h2, nI_1]
        exact a1
    · by_cases g : k = m
      · subst g
        rw [(a3 k (by omega)).1, (a3 k (by omega)).2, e18, e20, upd_g, upd_g, if_pos rfl, if_pos rfl]
        exact ⟨rfl, rfl⟩
      · exact a2 k (by omega) kb
    · rw [(a3 k (by omega)).1, (a3 k (by omega)).2, e18, e20, upd_g, upd_g, if_neg (by omega), if_neg (by omega)]
      exact ⟨rfl, rfl⟩
end MJA55
