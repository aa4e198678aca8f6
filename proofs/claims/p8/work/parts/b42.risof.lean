/-! ===== the reference's RUN: as ===== -/
section MJB42
variable {T : TT} {d N b k n m v u a o1 kx kk c0 wm cm i i0 : Nat} {L : List CD} {t : PT} {E : EV} {r : Row} {j : JS} {H : HEAP} {f : FRM} {fs : List FRM} {st : List Int32} {sc : SCL} {s s' : mjSt3} {q : Nat → Nat}
theorem L243_23 (R : mjR) (n a : Nat) (x y w : Int32) (hp : mjH) : L_243_23 R (n + 1) a x y w hp = b_243_23 R (L_243_23 R n) a x y w hp := rfl
theorem L243_70 (R : mjR) (n a : Nat) (x : Int32) (hp : mjH) : L_243_70 R (n + 1) a x hp = b_243_70 R (L_243_70 R n) a x hp := rfl
theorem L243_124 (R : mjR) (n a : Nat) (x y w : Int32) (hp : mjH) : L_243_124 R (n + 1) a x y w hp = b_243_124 R (L_243_124 R n) a x y w hp := rfl
theorem lq_243a (hn : HN T N L) (hb : b ≤ 1) (h16 : L.length ≤ 16) (hc : (H.2 o1).1 < L.length) (l4 : o1 < 1400) {tg : Int32} (hfr : frO T L H o1 + nmL L (H.2 o1).1 ≤ 4000) : ∀ (r i m : Nat) (s : mjSt3), i + r = 5 → r < m → s.1 97 95 = nI (16 * b + (H.2 o1).1) → s.1 104 (16 * b + (H.2 o1).1) = nI (nmL L (H.2 o1).1) → s.1 170 o1 = nI (frO T L H o1) → (∀ x, x < nmL L (H.2 o1).1 → s.1 168 (frO T L H o1 + x) = nI ((H.2 o1).2.1 x)) → (∀ x, x < i → x < nmL L (H.2 o1).1 → s.1 165 x = nI ((H.2 o1).2.1 x)) → ∃ s', L_243_23 (mjF (d + 2)) m 97 (nI o1) tg (nI i) (mjW0 s) = L_243_70 (mjF (d + 2)) mjN 97 tg (mjW0 s') ∧ oUp s s' ∧ s'.1 97 = s.1 97 ∧ ∀ x, x < nmL L (H.2 o1).1 → s'.1 165 x = nI ((H.2 o1).2.1 x)
  | r, i, 0, s, e, hr, h5, h4, h0, h8, w => by omega
  | 0, i, m + 1, s, e, hr, h5, h4, h0, h8, w => by
    have n5 := (vK.n5 hn hc).2
    refine ⟨s, ?_, offG.rf, rfl, fun x hx => w x (by omega) hx⟩
    rw [L243_23]
    unfold b_243_23
    rw [if_pos (show (5 : Int32) ≤ nI i from nI_le (a := 5) (by omega) (by omega))]
  | r + 1, i, m + 1, s, e, hr, h5, h4, h0, h8, w => by
    have n5 := (vK.n5 hn hc).2
    have go : ∀ x : Int32, (i < nmL L (H.2 o1).1 → x = nI ((H.2 o1).2.1 i)) → L_243_23 (mjF (d + 2)) (m + 1) 97 (nI o1) tg (nI i) (mjW0 s) = L_243_23 (mjF (d + 2)) m 97 (nI o1) tg (nI (i + 1)) (mjW0 (uI s 165 (upd (s.1 165) i x))) → ∃ s', L_243_23 (mjF (d + 2)) (m + 1) 97 (nI o1) tg (nI i) (mjW0 s) = L_243_70 (mjF (d + 2)) mjN 97 tg (mjW0 s') ∧ oUp s s' ∧ s'.1 97 = s.1 97 ∧ ∀ x, x < nmL L (H.2 o1).1 → s'.1 165 x = nI ((H.2 o1).2.1 x) := by
      intro x hx pre
      have r1 : ∀ h, ¬ h = 165 → (uI s 165 (upd (s.1 165) i x)).1 h = s.1 h := fun h e => uI_ne _ _ _ _ e
      obtain ⟨s', b1, b2', b3, b4⟩ := lq_243a hn hb h16 hc l4 hfr (tg := tg) r (i + 1) m (uI s 165 (upd (s.1 165) i x)) (by omega) (by omega) (by rw [r1 97 (by decide)]; exact h5) (by rw [r1 104 (by decide)]; exact h4) (by rw [r1 170 (by decide)]; exact h0) (fun y hy => by rw [r1 168 (by decide)]; exact h8 y hy) (fun y hy hy' => by
        rw [uI_same, upd_g]
        by_cases e' : y = i
        · rw [if_pos e', hx (by omega), e']
        · rw [if_neg e']; exact w y (by omega) hy')
      have o1' : oUp s (uI s 165 (upd (s.1 165) i x)) := offG.w (Or.inr (Or.inl rfl))
      exact ⟨s', pre.trans b1, o1'.tr b2', by rw [b3, r1 97 (by decide)], b4⟩
    by_cases g : i < nmL L (H.2 o1).1
    · refine go _ (fun _ => rfl) ?_
      rw [L243_23]
      unfold b_243_23 b_243_63
      rw [if_neg (show ¬ (5 : Int32) ≤ nI i from nI_ge (b := 5) (by omega) (by decide)), xg_97_93, xg_97_15, xg_97_95, h5, wa_104 (by omega), h4, if_neg (nI_ge g (by omega)), xg_97_108, xg_97_110, wa_170 l4, h0, nI_add, wa_168 (by omega), h8 i g, ws_165 (by omega), nI_1]
    · refine go 0 (fun h => absurd h g) ?_
      rw [L243_23]
      unfold b_243_23 b_243_63
      rw [if_neg (show ¬ (5 : Int32) ≤ nI i from nI_ge (b := 5) (by omega) (by decide)), xg_97_93, xg_97_15, xg_97_95, h5, wa_104 (by omega), h4, if_pos (nI_le (by omega) (by omega)), ws_165 (by omega), nI_1]
theorem lq_243b (Ac : ACY T N L) (hb : b ≤ 1) {c : Nat} (hc : c < L.length) (h0 : c0 < L.length) (hk : kx < 1600) (hq : ∀ x, 5 ≤ x → q x = 0) : ∀ (r i m v : Nat) (s : mjSt3), chn (nmL L) (abT T L) c i = some v → i + r = 16 → r < m → UPw L b s v q → s.1 139 kx = nI (16 * b + c0) → (∀ x, x < L.length → ABr T L b s x) → ∃ s' w y, L_243_70 (mjF (d + 2)) m 97 (nI kx) (mjW0 s) = b_243_102 (mjF (d + 2)) 97 (nI kx) (mjW0 s') ∧ oUp s s' ∧ UPw L b s' w q ∧ i ≤ y ∧ chn (nmL L) (abT T L) c y = some w ∧ (cK w = c0 ∨ abT T L (cK w) = none) ∧ ∀ y', i ≤ y' → y' < y → ∀ v', chn (nmL L) (abT T L) c y' = some v' → ¬ cK v' = c0
  | r, i, 0, v, s, e1, e2, hr, U, h9, A => by omega
  | 0, i, m + 1, v, s, e1, e2, hr, U, h9, A => by
    have := up_end Ac hc (chn_c Ac.1 hc i v e1)
    omega
  | r + 1, i, m + 1, v, s, e1, e2, hr, U, h9, A => by
    have hn := Ac.1
    have l16 := hn.1
    have vv := chn_v hn hc i v e1
    have cv := vv.cl hn
    by_cases ec : cK v = c0
    · refine ⟨s, v, i, ?_, offG.rf, U, Nat.le_refl _, e1, Or.inl ec, fun y' h1 h2 => by omega⟩
      rw [L243_70]
      unfold b_243_70
      rw [xg_97_95, U.1, xg_97_50, wa_139 hk, h9, ec, if_pos rfl]
    · have ne : ¬ nI (16 * b + cK v) = nI (16 * b + c0) := fun e => ec (by
        have := (nI_eq (by omega) (by omega)).mp e
        omega)
      have base : L_243_70 (mjF (d + 2)) (m + 1) 97 (nI kx) (mjW0 s) = (if cR b (upT T L (cK v)) = (-1 : Int32) then b_243_102 (mjF (d + 2)) 97 (nI kx) (mjW0 s) else rV (mjW0 s) 97 12 (bN (mjF (d + 2) 237 [.ref 97] (mjW0 s)) (fun hp7 => L_243_70 (mjF (d + 2)) m 97 (nI kx) hp7))) := by
        rw [L243_70]
        unfold b_243_70
        rw [xg_97_95, U.1, xg_97_50, wa_139 hk, h9, if_neg ne, xg_97_95, U.1, xV_97, x_242 (d := d + 1) hb l16 hn cv (A _ cv), bI_s]
      cases hu : abT T L (cK v) with
      | none =>
        have up0 : upT T L (cK v) = none := by unfold upT; rw [hu]; rfl
        exact ⟨s, v, i, by rw [base, up0, if_pos (show cR b none = -1 from rfl)], offG.rf, U, Nat.le_refl _, e1, Or.inr hu, fun y' h1 h2 => by omega⟩
      | some u' =>
        have up1 : upT T L (cK v) = some (cK u') := by unfold upT; rw [hu]; rfl
        have z : chn (nmL L) (abT T L) c (i + 1) = some (stand (nmL L) u' v) := by
          show (match chn (nmL L) (abT T L) c i with
            | none => none
            | some v => match abT T L (cK v) with
              | none => none
              | some u => some (stand (nmL L) u v)) = _
          rw [e1]
          dsimp only
          rw [hu]
        have cu := (ab_v hn cv hu).cl hn
        obtain ⟨s1, a1, a2, a3, a4⟩ := x_237 (d := d) hb l16 hn vv hq U (A _ cv) hu
        obtain ⟨s', w, y, b1, b2', b3, b4, b5, b6, b7⟩ := lq_243b Ac hb hc h0 hk hq r (i + 1) m (stand (nmL L) u' v) s1 z (by omega) (by omega) a3 (by rw [a2.1 139 kx (by omega)]; exact h9) (fun x hx => a2.A (A x hx))
        refine ⟨s', w, y, ?_, a2.tr b2', b3, by omega, b5, b6, fun y' h1 h2 v' hv' => ?_⟩
        · rw [base, up1, if_neg (show ¬ cR b (some (cK u')) = -1 from nI_m1 (show 16 * b + cK u' < 2 ^ 31 by omega)), xV_97, a1, bN_s]
          exact b1
        · by_cases e : y' = i
          · rw [e, e1] at hv'
            rw [← Option.some.inj hv']
            exact ec
          · exact b7 y' (by omega) h2 v' hv'
theorem lq_243c (R : mjR) (hk : kx < 1600) (n5 : n ≤ 5) {g : Nat → Bool} : ∀ (r i m : Nat) (x : Bool), i + r = n → r < m → s.1 138 kx = nI n → (∀ y, y < n → x = true → (s.1 165 y = s.1 185 y ↔ g y = true)) → ∃ bb : Bool, L_243_124 R m 97 (nI kx) (b2 x) (nI i) (mjW0 s) = some (some (.int (b2 bb)), mjW0 s) ∧ (bb = true ↔ x = true ∧ ∀ y, i ≤ y → y < n → g y = true)
  | r, i, 0, x, e, hr, h8, hg => by omega
  | 0, i, m + 1, x, e, hr, h8, hg => by
    refine ⟨x, ?_, ⟨fun h => ⟨h, fun y h1 h2 => by omega⟩, fun h => h.1⟩⟩
    rw [L243_124]
    unfold b_243_124 b_243_168
    rw [xg_97_49, wa_138 hk, h8, if_pos (nI_le (by omega) (by omega)), if_pos (b2_nar x)]
  | r + 1, i, m + 1, x, e, hr, h8, hg => by
    cases x with
    | false =>
      refine ⟨false, ?_, ⟨fun h => (by cases h), fun h => h.1⟩⟩
      rw [L243_124]
      unfold b_243_124 b_243_168
      rw [xg_97_49, wa_138 hk, h8, if_neg (nI_ge (show i < n by omega) (by omega)), if_pos (show b2 false = 0 from rfl), if_pos (b2_nar false)]
    | true =>
      have ig := hg i (by omega) rfl
      obtain ⟨bb, c1, c2⟩ := lq_243c R hk n5 (g := g) r (i + 1) m (g i) (by omega) (by omega) h8 (fun y hy _ => hg y hy rfl)
      refine ⟨bb, ?_, c2.trans ⟨fun ⟨h1, h2⟩ => ⟨rfl, fun y h3 h4 => ?_⟩, fun ⟨_, h2⟩ => ⟨h2 i (Nat.le_refl _) (by omega), fun y h3 h4 => h2 y (by omega) h4⟩⟩⟩
      · rw [L243_124]
        unfold b_243_124 b_243_161
        rw [xg_97_49, wa_138 hk, h8, if_neg (nI_ge (show i < n by omega) (by omega)), if_neg (show ¬ b2 true = 0 by decide), xg_97_93, wa_165 (by omega), xg_97_134, wa_185 (by omega)]
        cases hgi : g i with
        | true => rw [if_pos (ig.mpr hgi), nI_1]; rw [hgi] at c1; exact c1
        | false => rw [if_neg (fun h => by rw [ig.mp h] at hgi; cases hgi), nI_1]; rw [hgi] at c1; exact c1
      · by_cases e' : y = i
        · rw [e']; exact h1
        · exact h2 y (by omega) h4
end MJB42
