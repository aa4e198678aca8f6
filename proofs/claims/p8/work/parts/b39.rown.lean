/-! ===== the reference's RUN: the OWNERS that an OBJECT's CLASS sees ===== -/
/-- the OBJECT's OWNERS (by q) as a CLASS above sees them -/
def UPw (L : List CD) (b : Nat) (s : mjSt3) (v : Nat) (q : Nat → Nat) : Prop := s.1 97 95 = nI (16 * b + cK v) ∧ ∀ i, i < nmL L (cK v) → s.1 165 i = nI (q (oK v i))
section MJB39
variable {T : TT} {d N b k n m v u : Nat} {L : List CD} {s s' : mjSt3} {q : Nat → Nat}
theorem L237_12 (R : mjR) (n a : Nat) (x y : Int32) (hp : mjH) : L_237_12 R (n + 1) a x y hp = b_237_12 R (L_237_12 R n) a x y hp := rfl
theorem L237_77 (R : mjR) (n a : Nat) (x y : Int32) (hp : mjH) : L_237_77 R (n + 1) a x y hp = b_237_77 R (L_237_77 R n) a x y hp := rfl
theorem lq_237a (hn : HN T N L) (hv : vK L v) (hu : vK L u) (hk : k < 1600) (hq : ∀ x, 5 ≤ x → q x = 0) (hnm : ∀ i, i < nmL L (cK u) → oK u i < 5 → oK u i < nmL L (cK v)) : ∀ (r i m : Nat) (s : mjSt3), i + r = 5 → r < m → UPw L b s v q → s.1 138 k = nI (nmL L (cK u)) → KRr b s k (nmL L (cK u)) u → (∀ x, x < i → x < nmL L (cK u) → s.1 166 x = nI (q (oK (stand (nmL L) u v) x))) → ∃ s', L_237_12 (mjF (d + 1)) m 97 (nI k) (nI i) (mjW0 s) = L_237_77 (mjF (d + 1)) mjN 97 (nI k) (nI 0) (mjW0 s') ∧ oUp s s' ∧ s'.1 165 = s.1 165 ∧ s'.1 97 = s.1 97 ∧ ∀ x, x < nmL L (cK u) → s'.1 166 x = nI (q (oK (stand (nmL L) u v) x))
  | r, i, 0, s, e, hr, U, h8, K, w => by omega
  | 0, i, m + 1, s, e, hr, U, h8, K, w => by
    have n5 := (vK.n5 hn (hu.cl hn)).2
    refine ⟨s, ?_, offG.rf, rfl, rfl, fun x hx => w x (by omega) hx⟩
    rw [L237_12]
    unfold b_237_12
    rw [if_pos (show (5 : Int32) ≤ nI i from nI_le (a := 5) (by omega) (by omega))]
    rfl
  | r + 1, i, m + 1, s, e, hr, U, h8, K, w => by
    have n5 := (vK.n5 hn (hu.cl hn)).2
    have nv5 := (vK.n5 hn (hv.cl hn)).2
    have go : ∀ x : Int32, (i < nmL L (cK u) → x = nI (q (oK (stand (nmL L) u v) i))) → L_237_12 (mjF (d + 1)) (m + 1) 97 (nI k) (nI i) (mjW0 s) = L_237_12 (mjF (d + 1)) m 97 (nI k) (nI (i + 1)) (mjW0 (uI s 166 (upd (s.1 166) i x))) → ∃ s', L_237_12 (mjF (d + 1)) (m + 1) 97 (nI k) (nI i) (mjW0 s) = L_237_77 (mjF (d + 1)) mjN 97 (nI k) (nI 0) (mjW0 s') ∧ oUp s s' ∧ s'.1 165 = s.1 165 ∧ s'.1 97 = s.1 97 ∧ ∀ x, x < nmL L (cK u) → s'.1 166 x = nI (q (oK (stand (nmL L) u v) x)) := by
      intro x hx pre
      have r1 : ∀ h, ¬ h = 166 → (uI s 166 (upd (s.1 166) i x)).1 h = s.1 h := fun h e => uI_ne _ _ _ _ e
      obtain ⟨s', b1, b2', b3, b4, b5⟩ := lq_237a hn hv hu hk hq hnm r (i + 1) m (uI s 166 (upd (s.1 166) i x)) (by omega) (by omega) ⟨by rw [r1 97 (by decide)]; exact U.1, fun y hy => by rw [r1 165 (by decide)]; exact U.2 y hy⟩ (by rw [r1 138 (by decide)]; exact h8) ⟨by rw [r1 139 (by decide)]; exact K.1, fun y hy => by rw [r1 142 (by decide)]; exact K.2 y hy⟩ (fun y hy hn' => by
        rw [uI_same, upd_g]
        by_cases e' : y = i
        · rw [if_pos e', hx (by omega), e']
        · rw [if_neg e']; exact w y (by omega) hn')
      have o1 : oUp s (uI s 166 (upd (s.1 166) i x)) := offG.w (Or.inr (Or.inr rfl))
      exact ⟨s', pre.trans b1, o1.tr b2', by rw [b3, r1 165 (by decide)], by rw [b4, r1 97 (by decide)], b5⟩
    by_cases g : i < nmL L (cK u)
    · have ou := hu.ow hn i (by omega)
      have so := stand_o (w := v) hn hu g
      by_cases o5 : oK u i < 5
      · have lt := hnm i g o5
        have eo : oR (oK u i) = nI (oK u i) := by unfold oR; rw [if_neg (by omega), if_neg (by omega)]
        refine go (nI (q (oK v (oK u i)))) (fun _ => by rw [so, if_pos o5]) ?_
        rw [L237_12]
        unfold b_237_12 b_237_68
        rw [if_neg (show ¬ (5 : Int32) ≤ nI i from nI_ge (b := 5) (by omega) (by decide)), xg_97_94, xg_97_49, wa_138 hk, h8, if_pos (nI_lt g (by omega)), xg_97_53, i5m, wa_142 (by omega), K.2 i g, eo, if_neg (nI_pos (by omega)), xg_97_93, xg_97_53, wa_142 (by omega), K.2 i g, eo, wa_165 (by omega), U.2 _ lt, ws_166 (by omega), nI_1]
      · have neg : oR (oK u i) < 0 := by
          unfold oR
          by_cases e5 : oK u i = 5
          · rw [if_pos e5]; decide
          · rw [if_neg e5, if_pos (by omega)]; decide
        refine go 0 (fun _ => by rw [so, if_neg o5, hq _ (by omega)]; rfl) ?_
        rw [L237_12]
        unfold b_237_12 b_237_68
        rw [if_neg (show ¬ (5 : Int32) ≤ nI i from nI_ge (b := 5) (by omega) (by decide)), xg_97_94, xg_97_49, wa_138 hk, h8, if_pos (nI_lt g (by omega)), xg_97_53, i5m, wa_142 (by omega), K.2 i g, if_pos neg, ws_166 (by omega), nI_1]
    · refine go 0 (fun h => absurd h g) ?_
      rw [L237_12]
      unfold b_237_12 b_237_68
      rw [if_neg (show ¬ (5 : Int32) ≤ nI i from nI_ge (b := 5) (by omega) (by decide)), xg_97_94, xg_97_49, wa_138 hk, h8, if_neg (nI_nlt (by omega) (by omega)), ws_166 (by omega), nI_1]
theorem lq_237b {f : Nat → Int32} {vc : Int32} (hk : k < 1600) : ∀ (r i m : Nat) (s : mjSt3), i + r = 5 → r < m → s.1 139 k = vc → s.1 166 = f → (∀ x, x < i → s.1 165 x = f x) → ∃ s', L_237_77 (mjF (d + 1)) m 97 (nI k) (nI i) (mjW0 s) = some (none, mjW0 s') ∧ oUp s s' ∧ s'.1 97 95 = vc ∧ ∀ x, x < 5 → s'.1 165 x = f x
  | r, i, 0, s, e, hr, h9, h6, w => by omega
  | 0, i, m + 1, s, e, hr, h9, h6, w => by
    refine ⟨uI s 97 (upd (s.1 97) 95 vc), ?_, offG.w (Or.inl ⟨rfl, rfl⟩), by rw [uI_same, upd_g, if_pos rfl], fun x hx => by rw [uI_ne _ _ _ _ (by decide)]; exact w x (by omega)⟩
    rw [L237_77]
    unfold b_237_77
    rw [if_pos (show (5 : Int32) ≤ nI i from nI_le (a := 5) (by omega) (by omega)), xg_97_50, wa_139 hk, h9, xp_97_95]
  | r + 1, i, m + 1, s, e, hr, h9, h6, w => by
    obtain ⟨z, hz⟩ : ∃ z, z = uI s 165 (upd (s.1 165) i (f i)) := ⟨_, rfl⟩
    obtain ⟨s', b1, b2', b3, b4⟩ := lq_237b (f := f) (vc := vc) hk r (i + 1) m z (by omega) (by omega) (by rw [hz, uI_ne _ _ _ _ (by decide)]; exact h9) (by rw [hz, uI_ne _ _ _ _ (by decide)]; exact h6) (fun x hx => by
      rw [hz, uI_same, upd_g]
      by_cases e' : x = i
      · rw [if_pos e', e']
      · rw [if_neg e']; exact w x (by omega))
    refine ⟨s', ?_, (show oUp s z by rw [hz]; exact offG.w (Or.inr (Or.inl rfl))).tr b2', b3, b4⟩
    rw [← b1, L237_77]
    unfold b_237_77
    rw [if_neg (show ¬ (5 : Int32) ≤ nI i from nI_ge (b := 5) (by omega) (by decide)), xg_97_93, xg_97_94, wa_166 (by omega), h6, ws_165 (by omega), ← hz, nI_1]
/-- riseNow -/
theorem x_237 (hb : b ≤ 1) (h16 : L.length ≤ 16) (hn : HN T N L) (hv : vK L v) (hq : ∀ x, 5 ≤ x → q x = 0) (U : UPw L b s v q) (A : ABr T L b s (cK v)) (hu : abT T L (cK v) = some u) : ∃ s', mjF (d + 2) 237 [.ref 97] (mjW0 s) = some (none, mjW0 s') ∧ oUp s s' ∧ UPw L b s' (stand (nmL L) u v) q ∧ vK L (stand (nmL L) u v) := by
  have hmj := mjN_v
  have vu := ab_v hn (hv.cl hn) hu
  have n5 := (vK.n5 hn (vu.cl hn)).2
  have cv := hv.cl hn
  unfold ABr at A
  rw [hu] at A
  obtain ⟨_, k, hk, k1, k2, k3⟩ := A
  obtain ⟨s1, a1, a2, a3, a4, a5⟩ := lq_237a (d := d) (b := b) hn hv vu hk hq (fun i hi h5 => ab_nm hn hu hi h5) 5 0 mjN s (by omega) (by omega) U k2 k3 (fun x hx => by omega)
  obtain ⟨s2, c1, c2, c3, c4⟩ := lq_237b (d := d) (f := s1.1 166) (vc := s1.1 139 k) hk 5 0 mjN s1 (by omega) (by omega) rfl rfl (fun x hx => by omega)
  have ec : cK (stand (nmL L) u v) = cK u := stand_c hn vu
  refine ⟨s2, ?_, a2.tr c2, ⟨?_, fun i hi => ?_⟩, vK.stand hn vu hv⟩
  · rw [e_237]
    unfold f_237 b_237_0
    rw [xg_97_16, xg_97_95, U.1, wa_105 (by omega), k1]
    exact a1.trans c1
  · rw [c3, ec, a2.1 139 k (by omega), k3.1]
  · rw [ec] at hi
    rw [c4 i (by omega), a5 i hi]
end MJB39
