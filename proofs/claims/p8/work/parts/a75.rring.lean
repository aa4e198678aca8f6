/-! ===== the reference's judge: rings; INS ===== -/
/-- what the judging of INS changes -/
def oIn (C : Nat) : mjSt3 → mjSt3 → Prop := offG (fun h j => (h = 97 ∧ (j = 61 ∨ j = 62)) ∨ ((h = 117 ∨ h = 118) ∧ 8 * C ≤ j ∧ j < 8 * C + 8)) (fun _ _ => False)
section MJA75
variable {T : TT} {d N b k t c n kk C : Nat} {ks : List Nat} {L : List CD} {s s' : mjSt3}
theorem ABr.cg (A : ABr T L b s c) (h1 : s'.1 105 = s.1 105) (h2 : s'.1 138 = s.1 138) (h3 : s'.1 139 = s.1 139) (h4 : s'.1 142 = s.1 142) : ABr T L b s' c := by
  unfold ABr at A ⊢
  cases ha : abT T L c with
  | none => rw [ha] at A; dsimp only at A ⊢; rw [h1]; exact A
  | some kk =>
    rw [ha] at A
    obtain ⟨v, k, k1, k2, k3, k4⟩ := A
    exact ⟨v, k, k1, by rw [h1]; exact k2, by rw [h2]; exact k3, by rw [h3]; exact k4.1, fun i hi => by rw [h4]; exact k4.2 i hi⟩
theorem ABr.up (hn : HN T N L) (A : ABr T L b s c) {x : Nat} (hx : upT T L c = some x) : x < L.length := by
  unfold upT at hx
  unfold ABr at A
  cases ha : abT T L c with
  | none => rw [ha] at hx; cases hx
  | some kk =>
    rw [ha] at hx A
    cases hx
    exact vK.cl hn A.1
theorem L306_S (R : mjR) (n a : Nat) (b e f : Int32) (hp : mjH) : L_306_8 R (n + 1) a b e f hp = b_306_8 R (L_306_8 R n) a b e f hp := rfl
theorem cR_eq (hb : b ≤ 1) {h : Option Nat} (hh : ∀ x, h = some x → x < 16) (hc : c < 16) : cR b h = nI (16 * b + c) ↔ h = some c := by
  cases h with
  | none => exact ⟨fun e => absurd e.symm (nI_m1 (by omega)), fun e => by cases e⟩
  | some x =>
    have := hh x rfl
    constructor
    · intro e
      have e' : nI (16 * b + x) = nI (16 * b + c) := e
      have := (nI_eq (by omega) (by omega)).mp e'
      rw [show x = c by omega]
    · intro e; cases e; rfl
theorem lq_306 (hb : b ≤ 1) (h16 : L.length ≤ 16) (hn : HN T N L) (hc : c < L.length) (A : ∀ x, x < L.length → ABr T L b s x) : ∀ (r i m : Nat) (a : Option Nat), i + r = 16 → r < m → (∀ x, a = some x → x < L.length) → L_306_8 (mjF (d + 1)) m 97 (nI (16 * b + c)) (cR b a) (nI i) (mjW0 s) = b_306_36 (mjF (d + 1)) 97 (nI (16 * b + c)) (cR b (ringW (upT T L) c r a)) (mjW0 s)
  | r, i, 0, a, e, hr, ha => by omega
  | 0, i, m + 1, a, e, hr, ha => by
    rw [L306_S]
    unfold b_306_8
    rw [if_pos (show (16 : Int32) ≤ nI i from nI_le (a := 16) (by omega) (by omega))]
    rfl
  | r + 1, i, m + 1, none, e, hr, ha => by
    rw [L306_S]
    unfold b_306_8
    rw [if_neg (show ¬ (16 : Int32) ≤ nI i from nI_ge (b := 16) (by omega) (by decide)), if_pos (show cR b none = -1 from rfl)]
    rfl
  | r + 1, i, m + 1, some a, e, hr, ha => by
    have al := ha a rfl
    rw [L306_S]
    unfold b_306_8
    rw [if_neg (show ¬ (16 : Int32) ≤ nI i from nI_ge (b := 16) (by omega) (by decide)), if_neg (show ¬ cR b (some a) = -1 from nI_m1 (by omega))]
    by_cases g : a = c
    · rw [if_pos ((cR_eq hb (fun x hx => by cases hx; omega) (by omega)).mpr (by rw [g]))]
      show _ = b_306_36 (mjF (d + 1)) 97 (nI (16 * b + c)) (cR b (if a = c then some a else _)) (mjW0 s)
      rw [if_pos g]
    · rw [if_neg (fun x => g (by have := (cR_eq hb (h := some a) (fun x hx => by cases hx; omega) (by omega)).mp x; cases this; rfl)), xV_97, show cR b (some a) = nI (16 * b + a) from rfl, x_242 hb h16 hn al (A a al), bI_s, nI_1]
      show _ = b_306_36 (mjF (d + 1)) 97 (nI (16 * b + c)) (cR b (if a = c then some a else _)) (mjW0 s)
      rw [if_neg g]
      exact lq_306 hb h16 hn hc A r (i + 1) m (upT T L a) (by omega) (by omega) (fun x hx => (A a al).up hn hx)
/-- judgeRing -/
theorem x_306 (J : RJ T N b ks L s) (hc : c < L.length) (A : ∀ x, x < L.length → ABr T L b s x) (g : GR s) : ∃ s', mjF (d + 2) 306 [.ref 97, .int (nI (16 * b + c))] (mjW0 s) = some (none, mjW0 s') ∧ o61 s s' ∧ GR s' ∧ (gR0 s' ↔ gR0 s ∧ OKr T L c) := by
  have hb := J.b1
  have h16 := J.len
  have hn := J.2.2.2.2.2.1
  have pre : mjF (d + 2) 306 [.ref 97, .int (nI (16 * b + c))] (mjW0 s) = b_306_36 (mjF (d + 1)) 97 (nI (16 * b + c)) (cR b (ringW (upT T L) c 16 (upT T L c))) (mjW0 s) := by
    rw [e_306]
    unfold f_306 b_306_0
    rw [xV_97, x_242 hb h16 hn hc (A c hc), bI_s]
    exact lq_306 hb h16 hn hc A 16 0 mjN (upT T L c) (by omega) (by have := mjN_v; omega) (fun x hx => (A c hc).up hn hx)
  have rl : ∀ x, ringW (upT T L) c 16 (upT T L c) = some x → x < 16 := fun x hx => by
    have := ring_at (c := c) hn (fun y hy => (A c hc).up hn hy) x hx
    omega
  rw [pre]
  unfold b_306_36
  by_cases q : ringW (upT T L) c 16 (upT T L c) = some c
  · rw [if_pos ((cR_eq hb rl (by omega)).mpr q), xg_97_14, wa_103 (by omega), xV_97]
    obtain ⟨s', a1, a2, a3⟩ := x_268 (d := d) g (a := 11) (by decide) (s.1 103 (16 * b + c))
    rw [a1, bN_s]
    exact ⟨s', rfl, a2, Or.inr a3, ⟨fun x => absurd x a3.ng, fun x => absurd q x.2⟩⟩
  · rw [if_neg (fun x => q ((cR_eq hb rl (by omega)).mp x))]
    exact ⟨s, rfl, offG.rf, g, ⟨fun x => ⟨x, q⟩, fun x => x.1⟩⟩
theorem L307_S (R : mjR) (n a : Nat) (b e : Int32) (hp : mjH) : L_307_5 R (n + 1) a b e hp = b_307_5 R (L_307_5 R n) a b e hp := rfl
theorem oIn.J (o : oIn C s s') (J : RJ T N b ks L s) : RJ T N b ks L s' := J.off (o.1 97 63 (by omega)) (fun x hx => funext fun j => o.1 x j (by omega)) (funext fun x => funext fun j => o.2.1 x j (fun e => e))
theorem o61.In (o : o61 s s') : oIn C s s' := offG.mono o (fun _ _ x => Or.inl x) (fun _ _ x => x)
theorem nR_9 {o : Option Nat} (ho : ∀ x, o = some x → x < 5) : nR o = -9 ↔ o = none := by
  cases o with
  | none => exact ⟨fun _ => rfl, fun _ => rfl⟩
  | some x =>
    have := ho x rfl
    refine ⟨fun e => ?_, fun e => by cases e⟩
    have e' : nI x = -9 := e
    have : ¬ nI x < 0 := nI_pos (by omega)
    rw [e'] at this
    exact absurd (by decide) this
theorem lq_307 (hc : c < L.length) : ∀ (r i m : Nat) (s : mjSt3), i + r = inL L c → r < m → RJ T N b ks L s → GR s → (gR0 s → ∀ x, x < i → s.1 117 (8 * (16 * b + c) + x) = nI (ipT T L c x).1 ∧ s.1 118 (8 * (16 * b + c) + x) = nI (ipT T L c x).2) → ∃ s', L_307_5 (mjF (d + 1)) m 97 (nI (16 * b + c)) (nI (8 * (16 * b + c) + i)) (mjW0 s) = some (none, mjW0 s') ∧ oIn (16 * b + c) s s' ∧ GR s' ∧ (gR0 s' ↔ gR0 s ∧ ∀ x, i ≤ x → x < inL L c → ¬ nmK T L c (kyT T ((hC L c).2.2.2.1 + 4 * x)) = none ∧ ¬ nmK T L c (kyT T ((hC L c).2.2.2.1 + 4 * x + 2)) = none) ∧ (gR0 s' → ∀ x, x < inL L c → s'.1 117 (8 * (16 * b + c) + x) = nI (ipT T L c x).1 ∧ s'.1 118 (8 * (16 * b + c) + x) = nI (ipT T L c x).2)
  | r, i, 0, s, e, hr, J, g, w => by omega
  | 0, i, m + 1, s, e, hr, J, g, w => by
    have hb := J.b1
    have h16 := J.len
    have H := J.hd hc
    have i8 : inL L c ≤ 8 := H.2.2.2.2.2.2.2.2
    refine ⟨s, ?_, offG.rf, g, ⟨fun x => ⟨x, fun y h1 h2 => by omega⟩, fun x => x.1⟩, fun x y hy => w x y (by omega)⟩
    rw [L307_S]
    unfold b_307_5
    rw [xg_97_17, wa_106 (by omega), show s.1 106 (16 * b + c) = nI (inL L c) from H.2.2.2.2.2.1.1, i8m, if_pos (nI_le (by omega) (by omega))]
  | r + 1, i, m + 1, s, e, hr, J, g, w => by
    have hb := J.b1
    have h16 := J.len
    have hn := J.2.2.2.2.2.1
    have H := J.hd hc
    have i8 : inL L c ≤ 8 := H.2.2.2.2.2.2.2.2
    obtain ⟨C, hC'⟩ : ∃ C, C = 16 * b + c := ⟨_, rfl⟩
    have kA : s.2.1 113 (8 * (16 * b + c) + i) = kyT T ((hC L c).2.2.2.1 + 4 * i) := (H.2.2.2.2.2.1.2 i (show i < (hC L c).2.2.2.2 by unfold inL at e; omega)).1
    have kB : s.2.1 114 (8 * (16 * b + c) + i) = kyT T ((hC L c).2.2.2.1 + 4 * i + 2) := (H.2.2.2.2.2.1.2 i (show i < (hC L c).2.2.2.2 by unfold inL at e; omega)).2.2.1
    rw [L307_S]
    unfold b_307_5
    rw [xg_97_17, wa_106 (by omega), show s.1 106 (16 * b + c) = nI (inL L c) from H.2.2.2.2.2.1.1, i8m, if_neg (nI_ge (by omega) (by omega)), xg_97_61]
    by_cases g0 : s.1 97 61 = 0
    · obtain ⟨z1, h1⟩ : ∃ z, z = uI s 117 (upd (s.1 117) (8 * (16 * b + c) + i) (nR (nmK T L c (kyT T ((hC L c).2.2.2.1 + 4 * i))))) := ⟨_, rfl⟩
      obtain ⟨z2, h2⟩ : ∃ z, z = uI z1 118 (upd (z1.1 118) (8 * (16 * b + c) + i) (nR (nmK T L c (kyT T ((hC L c).2.2.2.1 + 4 * i + 2))))) := ⟨_, rfl⟩
      have o1 : oIn (16 * b + c) s z1 := by rw [h1]; exact offG.w (Or.inr ⟨Or.inl rfl, by omega, by omega⟩)
      have o2 : oIn (16 * b + c) z1 z2 := by rw [h2]; exact offG.w (Or.inr ⟨Or.inr rfl, by omega, by omega⟩)
      have J1 := oIn.J o1 J
      have J2 := oIn.J o2 J1
      have l1 : z1.2.1 = s.2.1 := by rw [h1]; rfl
      have e117 : z2.1 117 (8 * (16 * b + c) + i) = nR (nmK T L c (kyT T ((hC L c).2.2.2.1 + 4 * i))) := by rw [h2, uI_ne _ _ _ _ (by decide), h1, uI_same, upd_g, if_pos rfl]
      have e118 : z2.1 118 (8 * (16 * b + c) + i) = nR (nmK T L c (kyT T ((hC L c).2.2.2.1 + 4 * i + 2))) := by rw [h2, uI_same, upd_g, if_pos rfl]
      have g2 : gR0 z2 := by unfold gR0; rw [h2, uI_ne _ _ _ _ (by decide), h1, uI_ne _ _ _ _ (by decide)]; exact g0
      rw [if_pos g0, xg_97_28, xg_97_24, wa_113 (by omega), kA, xV_97, x_305 J hc, bI_s, ws_117 (by omega), ← h1, xg_97_29, xg_97_25, wa_114 (by omega), l1, kB, xV_97, x_305 J1 hc, bI_s, ws_118 (by omega), ← h2, xg_97_28, wa_117 (by omega), e117]
      -- both bad roads go on to the end
      have bad : ∀ z, oIn (16 * b + c) s z → bR0 z → ¬ (¬ nmK T L c (kyT T ((hC L c).2.2.2.1 + 4 * i)) = none ∧ ¬ nmK T L c (kyT T ((hC L c).2.2.2.1 + 4 * i + 2)) = none) → ∃ s', L_307_5 (mjF (d + 1)) m 97 (nI (16 * b + c)) (nI (8 * (16 * b + c) + (i + 1))) (mjW0 z) = some (none, mjW0 s') ∧ oIn (16 * b + c) s s' ∧ GR s' ∧ (gR0 s' ↔ gR0 s ∧ ∀ x, i ≤ x → x < inL L c → ¬ nmK T L c (kyT T ((hC L c).2.2.2.1 + 4 * x)) = none ∧ ¬ nmK T L c (kyT T ((hC L c).2.2.2.1 + 4 * x + 2)) = none) ∧ (gR0 s' → ∀ x, x < inL L c → s'.1 117 (8 * (16 * b + c) + x) = nI (ipT T L c x).1 ∧ s'.1 118 (8 * (16 * b + c) + x) = nI (ipT T L c x).2) := by
        intro z oz bz nz
        obtain ⟨s', b1, b2', b3, b4, b5⟩ := lq_307 hc r (i + 1) m z (by omega) (by omega) (oIn.J oz J) (Or.inr bz) (fun x => absurd x bz.ng)
        exact ⟨s', b1, oz.tr b2', b3, ⟨fun x => absurd (b4.mp x).1 bz.ng, fun x => absurd (x.2 i (Nat.le_refl _) (by omega)) nz⟩, b5⟩
      have la : ∀ key x, nmK T L c key = some x → x < 5 := fun key x hx => nmK_lt hn hc hx
      unfold b_307_83 b_307_105
      by_cases qa : nmK T L c (kyT T ((hC L c).2.2.2.1 + 4 * i)) = none
      · rw [if_pos ((nR_9 (la _)).mpr qa), xg_97_26, wa_115 (by omega), xV_97]
        obtain ⟨z3, a1, a2, a3⟩ := x_268 (d := d) (s := z2) (Or.inl g2) (a := 5) (by decide) (z2.1 115 (8 * (16 * b + c) + i))
        rw [a1, bN_s, xg_97_29, wa_118 (by omega), nI_1, show 8 * (16 * b + c) + i + 1 = 8 * (16 * b + c) + (i + 1) by omega, a2.1 118 _ (by omega), e118]
        have o3 : oIn (16 * b + c) s z3 := (o1.tr o2).tr (o61.In a2)
        by_cases qb : nmK T L c (kyT T ((hC L c).2.2.2.1 + 4 * i + 2)) = none
        · rw [if_pos ((nR_9 (la _)).mpr qb), xg_97_27, wa_116 (by omega), xV_97]
          obtain ⟨z4, c1, c2, c3⟩ := x_268 (d := d) (s := z3) (Or.inr a3) (a := 5) (by decide) (z3.1 116 (8 * (16 * b + c) + i))
          rw [c1, bN_s]
          exact bad z4 (o3.tr (o61.In c2)) c3 (fun x => x.1 qa)
        · rw [if_neg (fun x => qb ((nR_9 (la _)).mp x))]
          exact bad z3 o3 a3 (fun x => x.1 qa)
      · rw [if_neg (fun x => qa ((nR_9 (la _)).mp x)), xg_97_29, wa_118 (by omega), nI_1, show 8 * (16 * b + c) + i + 1 = 8 * (16 * b + c) + (i + 1) by omega, e118]
        by_cases qb : nmK T L c (kyT T ((hC L c).2.2.2.1 + 4 * i + 2)) = none
        · rw [if_pos ((nR_9 (la _)).mpr qb), xg_97_27, wa_116 (by omega), xV_97]
          obtain ⟨z4, c1, c2, c3⟩ := x_268 (d := d) (s := z2) (Or.inl g2) (a := 5) (by decide) (z2.1 116 (8 * (16 * b + c) + i))
          rw [c1, bN_s]
          exact bad z4 ((o1.tr o2).tr (o61.In c2)) c3 (fun x => x.2 qb)
        · rw [if_neg (fun x => qb ((nR_9 (la _)).mp x))]
          obtain ⟨s', b1, b2', b3, b4, b5⟩ := lq_307 hc r (i + 1) m z2 (by omega) (by omega) J2 (Or.inl g2) (fun x y hy => by
            by_cases e' : y = i
            · subst e'
              rw [e117, e118]
              unfold ipT
              cases ha : nmK T L c (kyT T ((hC L c).2.2.2.1 + 4 * y)) with
              | none => exact absurd ha qa
              | some u =>
                cases hb' : nmK T L c (kyT T ((hC L c).2.2.2.1 + 4 * y + 2)) with
                | none => exact absurd hb' qb
                | some v => exact ⟨rfl, rfl⟩
            · have := w g0 y (by omega)
              rw [h2, uI_ne _ _ _ _ (by decide), h1, uI_same, upd_g, if_neg (by omega), uI_same, upd_g, if_neg (by omega), uI_ne _ _ _ _ (by decide)]
              exact this)
          refine ⟨s', b1, (o1.tr o2).tr b2', b3, ⟨fun x => ⟨g0, fun y h1 h2 => ?_⟩, fun x => b4.mpr ⟨g2, fun y h1 h2 => x.2 y (by omega) h2⟩⟩, b5⟩
          by_cases e' : y = i
          · rw [e']; exact ⟨qa, qb⟩
          · exact (b4.mp x).2 y (by omega) h2
    · rw [if_neg g0]
      exact ⟨s, rfl, offG.rf, g, ⟨fun x => absurd x g0, fun x => absurd x.1 g0⟩, fun x => absurd x g0⟩
/-- judgeIns -/
theorem x_307 (J : RJ T N b ks L s) (hc : c < L.length) (g : GR s) : ∃ s', mjF (d + 2) 307 [.ref 97, .int (nI (16 * b + c))] (mjW0 s) = some (none, mjW0 s') ∧ oIn (16 * b + c) s s' ∧ GR s' ∧ (gR0 s' ↔ gR0 s ∧ OKc T L c) ∧ (gR0 s' → ∀ x, x < inL L c → s'.1 117 (8 * (16 * b + c) + x) = nI (ipT T L c x).1 ∧ s'.1 118 (8 * (16 * b + c) + x) = nI (ipT T L c x).2) := by
  have i8 : inL L c ≤ 8 := (J.hd hc).2.2.2.2.2.2.2.2
  obtain ⟨s', b1, b2', b3, b4, b5⟩ := lq_307 (d := d) hc (inL L c) 0 mjN s (by omega) (by have := mjN_v; omega) J g (fun _ x hx => by omega)
  refine ⟨s', ?_, b2', b3, b4.trans ⟨fun x => ⟨x.1, fun y hy => x.2 y (Nat.zero_le _) hy⟩, fun x => ⟨x.1, fun y _ hy => x.2 y hy⟩⟩, b5⟩
  rw [e_307]
  unfold f_307 b_307_0
  rw [show (8 : Int32) * nI (16 * b + c) = nI (8 * (16 * b + c) + 0) by rw [show (8 : Int32) = nI 8 from rfl, nI_mul]; rfl]
  exact b1
end MJA75
