/-! ===== what a CLASS is as one above it ===== -/
def chn (nm : Nat → Nat) (ab : Nat → Option Nat) (c : Nat) : Nat → Option Nat
  | 0 => some (own nm c)
  | k + 1 => match chn nm ab c k with
    | none => none
    | some v => match ab (cK v) with
      | none => none
      | some u => some (stand nm u v)
def vwk (nm : Nat → Nat) (ab : Nat → Option Nat) (c a k : Nat) : Option Nat := match fnd (fun k => match chn nm ab c k with
    | some v => decide (cK v = a)
    | none => false) k with
  | none => none
  | some k => chn nm ab c k
def vwT (nm : Nat → Nat) (ab : Nat → Option Nat) (c a : Nat) : Option Nat := vwk nm ab c a 16
/-- no CLASS of the TEXT is above itself -/
def ACY (T : TT) (N : Nat) (L : List CD) : Prop := HN T N L ∧ noR (upT T L) L.length
section MJA12
variable {T : TT} {d N q c t n e k u v : Nat} {s s' : mjSt3} {L : List CD}
theorem vK.own (hn : HN T N L) (hc : c < L.length) : vK L (own (nmL L) c) := ⟨c, fun i => i, hc, rfl, fun i hi => by have := (vK.n5 hn hc).2; show i ≤ 6; omega⟩
theorem vK.stand (hn : HN T N L) (hu : vK L u) (hv : vK L v) : vK L (stand (nmL L) u v) := by
  have h1 := hu.ow hn
  have h2 := hv.ow hn
  have hc := hu.cl hn
  refine ⟨cK u, _, hc, rfl, fun i hi => ?_⟩
  have n5 := (vK.n5 hn hc).2
  have a := h1 i (by omega)
  by_cases g : oK u i < 5
  · rw [if_pos g]; exact h2 _ g
  · rw [if_neg g]; exact a
theorem stand_c (hn : HN T N L) (hu : vK L u) : cK (stand (nmL L) u v) = cK u := mkK_c (vK.n5 hn (hu.cl hn)).2 (fun i _ => st_f)
theorem own_c (hn : HN T N L) (hc : c < L.length) : cK (own (nmL L) c) = c := mkK_c (vK.n5 hn hc).2 (fun i hi => by have := (vK.n5 hn hc).2; show i < 8; omega)
theorem chn_v (hn : HN T N L) (hc : c < L.length) : ∀ (k v : Nat), chn (nmL L) (abT T L) c k = some v → vK L v
  | 0, v, h => by cases h; exact vK.own hn hc
  | k + 1, v, h => by
    unfold chn at h
    cases e : chn (nmL L) (abT T L) c k with
    | none => rw [e] at h; cases h
    | some w =>
      rw [e] at h
      dsimp only at h
      have hw := chn_v hn hc k w e
      cases e2 : abT T L (cK w) with
      | none => rw [e2] at h; cases h
      | some u =>
        rw [e2] at h
        cases h
        exact vK.stand hn (ab_v hn (hw.cl hn) e2) hw
theorem upI_S {up : Nat → Option Nat} (k a : Nat) : upI up (k + 1) a = match upI up k a with
    | none => none
    | some b => up b := by
  rw [upI_add]
  cases upI up k a with
  | none => rfl
  | some b =>
    show upI up 1 b = up b
    unfold upI
    cases up b <;> rfl
theorem chn_c (hn : HN T N L) (hc : c < L.length) : ∀ (k v : Nat), chn (nmL L) (abT T L) c k = some v → upI (upT T L) k c = some (cK v)
  | 0, v, h => by cases h; rw [own_c hn hc]; rfl
  | k + 1, v, h => by
    unfold chn at h
    cases e : chn (nmL L) (abT T L) c k with
    | none => rw [e] at h; cases h
    | some w =>
      rw [e] at h
      dsimp only at h
      have hw := chn_v hn hc k w e
      have ih := chn_c hn hc k w e
      cases e2 : abT T L (cK w) with
      | none => rw [e2] at h; cases h
      | some u =>
        rw [e2] at h
        cases h
        rw [upI_S, ih]
        dsimp only
        unfold upT
        rw [e2, stand_c hn (ab_v hn (hw.cl hn) e2)]
        rfl
theorem chn_ne (A : ACY T N L) (hc : c < L.length) {i j v w : Nat} (hi : chn (nmL L) (abT T L) c i = some v) (hj : chn (nmL L) (abT T L) c j = some w) (h : i < j) (h17 : j ≤ i + 17) : ¬ cK v = cK w := by
  intro x
  have a := chn_c A.1 hc i v hi
  have b := chn_c A.1 hc j w hj
  have ad := upI_add (up := upT T L) i (j - i) c
  rw [show i + (j - i) = j by omega, a, b] at ad
  dsimp only at ad
  have r := A.2 (cK v) ((chn_v A.1 hc i v hi).cl A.1) (j - i - 1) (by omega)
  rw [show j - i - 1 + 1 = j - i by omega] at r
  exact r (by rw [← ad, x])
theorem chn_none (nm : Nat → Nat) (ab : Nat → Option Nat) (h : chn nm ab c k = none) : ∀ m, chn nm ab c (k + m) = none
  | 0 => h
  | m + 1 => by
    show (match chn nm ab c (k + m) with
      | none => none
      | some v => match ab (cK v) with
        | none => none
        | some u => some (stand nm u v)) = none
    rw [chn_none nm ab h m]
theorem vwk_S {a : Nat} (nm : Nat → Nat) (ab : Nat → Option Nat) : vwk nm ab c a (k + 1) = match vwk nm ab c a k with
    | some w => some w
    | none => match chn nm ab c k with
      | some v => if cK v = a then some v else none
      | none => none := by
  unfold vwk
  have e : ∀ p : Nat → Bool, fnd p (k + 1) = match fnd p k with
    | some i => some i
    | none => if p k = true then some k else none := fun _ => rfl
  rw [e]
  cases hf : fnd (fun k => match chn nm ab c k with
    | some v => decide (cK v = a)
    | none => false) k with
  | some i =>
    obtain ⟨_, b, _⟩ := fnd_some.mp hf
    dsimp only at b ⊢
    cases hc : chn nm ab c i with
    | none => rw [hc] at b; cases b
    | some w => rfl
  | none =>
    dsimp only
    cases hc : chn nm ab c k with
    | none => rfl
    | some v =>
      dsimp only
      by_cases g : cK v = a
      · rw [if_pos g, if_pos (by simpa using g)]
        exact hc
      · rw [if_neg g, if_neg (by simpa using g)]
theorem vwk_at {a w : Nat} {nm : Nat → Nat} {ab : Nat → Option Nat} : ∀ {k : Nat}, vwk nm ab c a k = some w → ∃ j, j < k ∧ chn nm ab c j = some w ∧ cK w = a
  | 0, h => by cases h
  | k + 1, h => by
    rw [vwk_S] at h
    cases e : vwk nm ab c a k with
    | some x =>
      rw [e] at h
      cases h
      obtain ⟨j, a, b⟩ := vwk_at e
      exact ⟨j, by omega, b⟩
    | none =>
      rw [e] at h
      dsimp only at h
      cases hc : chn nm ab c k with
      | none => rw [hc] at h; cases h
      | some v =>
        rw [hc] at h
        dsimp only at h
        by_cases g : cK v = a
        · rw [if_pos g] at h; cases h; exact ⟨k, by omega, hc, g⟩
        · rw [if_neg g] at h; cases h
theorem vwk_end {a : Nat} {nm : Nat → Nat} {ab : Nat → Option Nat} (h : chn nm ab c k = none) : ∀ m, vwk nm ab c a (k + m) = vwk nm ab c a k
  | 0 => rfl
  | m + 1 => by
    rw [show k + (m + 1) = (k + m) + 1 by omega, vwk_S, vwk_end h m, chn_none nm ab h m]
    cases vwk nm ab c a k <;> rfl
theorem L110_S (R : mjR) (n a : Nat) (b : Int32) (hp : mjH) : L_110_2 R (n + 1) a b hp = b_110_2 R (L_110_2 R n) a b hp := rfl
theorem L110b_S (R : mjR) (k2 : Nat → Int32 → mjH → mjU) (n a : Nat) (b e f : Int32) (hp : mjH) : L_110_18 R k2 (n + 1) a b e f hp = b_110_18 R k2 (L_110_18 R k2 n) a b e f hp := rfl
theorem lq_110b (A : ACY T N L) (hq : isP q) (k2 : Nat → Int32 → mjH → mjU) (hc : c < L.length) : ∀ (r k m : Nat) (s : mjSt3), k + r = 16 → r < m → pnm q s (nmL L) → ABK T L q s → (∀ a, a < 16 → s.1 (q + 12) (16 * c + a) = oI (vwk (nmL L) (abT T L) c a k)) → ∃ s', L_110_18 (mjF (d + 2)) k2 m q (nI c) (oI (chn (nmL L) (abT T L) c k)) (nI k) (mjW0 s) = k2 q (nI (c + 1)) (mjW0 s') ∧ oRow (q + 12) s s' ∧ (∀ j, ¬ (16 * c ≤ j ∧ j < 16 * c + 16) → s'.1 (q + 12) j = s.1 (q + 12) j) ∧ (∀ a, a < 16 → s'.1 (q + 12) (16 * c + a) = oI (vwT (nmL L) (abT T L) c a)) ∧ s'.1 58 = s.1 58
  | 0, k, m + 1, s, e, _, hn, ha, w => by
    refine ⟨s, ?_, offG.rf, fun _ _ => rfl, fun a ha => ?_, rfl⟩
    · rw [L110b_S]
      unfold b_110_18 b_110_80
      rw [if_pos (show (16 : Int32) ≤ nI k from nI_le (a := 16) (by omega) (by omega)), nI_1]
    · rw [w a ha, show k = 16 by omega]; rfl
  | r + 1, k, m + 1, s, e, hr, hn, ha, w => by
    have h16 := A.1.1
    have hq' : q = 2 ∨ q = 30 := hq
    have pre : L_110_18 (mjF (d + 2)) k2 (m + 1) q (nI c) (oI (chn (nmL L) (abT T L) c k)) (nI k) (mjW0 s) = _ := L110b_S _ _ _ _ _ _ _ _
    unfold b_110_18 b_110_80 b_110_73 at pre
    rw [if_neg (show ¬ (16 : Int32) ≤ nI k from nI_ge (b := 16) (by omega) (by decide))] at pre
    cases hk : chn (nmL L) (abT T L) c k with
    | none =>
      rw [hk, oI_n, if_pos (by decide), nI_1] at pre
      rw [oI_n]
      refine ⟨s, pre, offG.rf, fun _ _ => rfl, fun a ha => ?_, rfl⟩
      have := vwk_end (a := a) hk (r + 1)
      rw [show k + (r + 1) = 16 by omega] at this
      rw [w a ha]
      unfold vwT
      rw [this]
    | some v =>
      have vv := chn_v A.1 hc k v hk
      have vl := vv.lt A.1
      have vc := vv.cl A.1
      rw [hk, oI_s, if_neg (nI_pos (by omega)), x_105 (by omega), bI_s, yg_12 hq, show nI c * (16 : Int32) + nI (cK v) = nI (16 * c + cK v) by rw [show (16 : Int32) = nI 16 from rfl, nI_mul, nI_add, Nat.mul_comm], wys_12 hq (by omega), nI_1] at pre
      obtain ⟨z, hz⟩ : ∃ z, z = uI s (q + 12) (upd (s.1 (q + 12)) (16 * c + cK v) (nI v)) := ⟨_, rfl⟩
      have oz : oRow (q + 12) s z := by rw [hz]; exact oRow.w
      have nz : pnm q z (nmL L) := by unfold pnm; rw [oz.r (by omega) (by omega)]; exact hn
      have az : ABK T L q z := by unfold ABK; rw [oz.r (by omega) (by omega)]; exact ha
      rw [← hz, yg_5 hq, wya_5 hq (by omega), az _ (by omega), if_pos vc] at pre
      have z58 : z.1 58 = s.1 58 := by rw [hz]; exact uI_ne _ _ _ _ (by omega)
      have wz : ∀ a, a < 16 → z.1 (q + 12) (16 * c + a) = oI (vwk (nmL L) (abT T L) c a (k + 1)) := by
        intro a ha
        rw [hz, uI_same, upd_g, vwk_S, hk]
        dsimp only
        by_cases g : cK v = a
        · rw [if_pos (by omega), if_pos g]
          cases hw : vwk (nmL L) (abT T L) c a k with
          | none => rfl
          | some x =>
            obtain ⟨j, j1, j2, j3⟩ := vwk_at hw
            exact absurd (j3.trans g.symm) (chn_ne A hc j2 hk j1 (by omega))
        · rw [if_neg (by omega), if_neg g, w a ha]
          cases vwk (nmL L) (abT T L) c a k <;> rfl
      have nx : chn (nmL L) (abT T L) c (k + 1) = match abT T L (cK v) with
          | none => none
          | some u => some (stand (nmL L) u v) := by
        show (match chn (nmL L) (abT T L) c k with
          | none => none
          | some v => match abT T L (cK v) with
            | none => none
            | some u => some (stand (nmL L) u v)) = _
        rw [hk]
      have fin : L_110_18 (mjF (d + 2)) k2 (m + 1) q (nI c) (nI v) (nI k) (mjW0 s) = L_110_18 (mjF (d + 2)) k2 m q (nI c) (oI (chn (nmL L) (abT T L) c (k + 1))) (nI (k + 1)) (mjW0 z) := by
        rw [pre, nx]
        cases hab : abT T L (cK v) with
        | none => rw [oI_n, if_neg (by decide)]
        | some u =>
          have vu := ab_v A.1 vc hab
          have ul := vu.lt A.1
          rw [oI_s, if_pos (nI_pos' (by omega)), yg_5 hq, wya_5 hq (by omega), az _ (by omega), if_pos vc, hab, oI_s, yV hq, x_stand hq nz (by omega) (by omega) (by have := vu.cl A.1; omega), bI_s]
          rfl
      obtain ⟨s', a1, a2, a3, a4, a5⟩ := lq_110b A hq k2 hc r (k + 1) m z (by omega) (by omega) nz az wz
      refine ⟨s', by rw [oI_s, fin, a1], oz.tr a2, fun j hj => ?_, a4, a5.trans z58⟩
      rw [a3 j hj, hz, uI_same, upd_g, if_neg (by omega)]
theorem lq_110 (A : ACY T N L) (hq : isP q) : ∀ (r c m : Nat) (s : mjSt3), c + r = L.length → r < m → s.1 q 0 = nI L.length → pnm q s (nmL L) → ABK T L q s → (∀ b, b < c → ∀ a, a < 16 → s.1 (q + 12) (16 * b + a) = oI (vwT (nmL L) (abT T L) b a)) → (∀ b, c ≤ b → b < 16 → ∀ a, a < 16 → s.1 (q + 12) (16 * b + a) = -1) → ∃ s', L_110_2 (mjF (d + 2)) m q (nI c) (mjW0 s) = some (none, mjW0 s') ∧ oRow (q + 12) s s' ∧ (∀ b, b < 16 → ∀ a, a < 16 → s'.1 (q + 12) (16 * b + a) = if b < L.length then oI (vwT (nmL L) (abT T L) b a) else -1) ∧ s'.1 58 = s.1 58
  | 0, c, m + 1, s, e, _, h0, hn, ha, w, w' => by
    have h16 := A.1.1
    refine ⟨s, ?_, offG.rf, fun b hb a ha => ?_, rfl⟩
    · rw [L110_S]
      unfold b_110_2
      rw [yg_0 hq, h0, if_pos (nI_le (by omega) (by omega))]
    · by_cases hl : b < L.length
      · rw [if_pos hl]; exact w b (by omega) a ha
      · rw [if_neg hl]; exact w' b (by omega) hb a ha
  | r + 1, c, m + 1, s, e, hr, h0, hn, ha, w, w' => by
    have h16 := A.1.1
    have hq' : q = 2 ∨ q = 30 := hq
    have hc : c < L.length := by omega
    obtain ⟨z, a1, a2, a3, a4, a5⟩ := lq_110b (d := d) A hq (L_110_2 (mjF (d + 2)) m) hc 16 0 mjN s (by omega) (by have := mjN_v; omega) hn ha (fun a ha => by rw [w' c (by omega) (by omega) a ha]; rfl)
    obtain ⟨s', b1, b2', b3, b4⟩ := lq_110 A hq r (c + 1) m z (by omega) (by omega) (by rw [a2.r (by omega) (by omega)]; exact h0) (by unfold pnm; rw [a2.r (by omega) (by omega)]; exact hn) (by unfold ABK; rw [a2.r (by omega) (by omega)]; exact ha) (fun b hb a ha => by
      by_cases eb : b = c
      · rw [eb]; exact a4 a ha
      · rw [a3 _ (by omega)]; exact w b (by omega) a ha) (fun b h1 h2 a ha => by rw [a3 _ (by omega)]; exact w' b (by omega) h2 a ha)
    refine ⟨s', ?_, a2.tr b2', b3, b4.trans a5⟩
    rw [L110_S]
    unfold b_110_2
    rw [yg_0 hq, h0, if_neg (nI_ge (by omega) (by omega)), yV hq, x_ownK hq hn (by omega), bI_s]
    exact a1.trans b1
/-- fillViews -/
theorem x_110 (A : ACY T N L) (hq : isP q) (h0 : s.1 q 0 = nI L.length) (hn : pnm q s (nmL L)) (ha : ABK T L q s) (w : ∀ j, j < 256 → s.1 (q + 12) j = -1) : ∃ s', mjF (d + 3) 110 [.ref q] (mjW0 s) = some (none, mjW0 s') ∧ oRow (q + 12) s s' ∧ (∀ b, b < 16 → ∀ a, a < 16 → s'.1 (q + 12) (16 * b + a) = if b < L.length then oI (vwT (nmL L) (abT T L) b a) else -1) ∧ s'.1 58 = s.1 58 := by
  obtain ⟨s', a1, a2⟩ := lq_110 (d := d) A hq L.length 0 mjN s (by omega) (by have := A.1.1; have := mjN_v; omega) h0 hn ha (fun b hb => absurd hb (by omega)) (fun b _ hb a ha => w _ (by omega))
  refine ⟨s', ?_, a2⟩
  rw [e_110]
  unfold f_110 b_110_0
  exact a1
end MJA12
