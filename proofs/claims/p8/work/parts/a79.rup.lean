/-! ===== the reference: a KIND and those above it ===== -/
/-- up holds the OWNERS of KIND v -/
def UPv (L : List CD) (b : Nat) (s : mjSt3) (v : Nat) : Prop := s.1 97 95 = nI (16 * b + cK v) ∧ ∀ i, i < nmL L (cK v) → s.1 165 i = oR (oK v i)
/-- what own, rise, load and findMember change -/
def oUp : mjSt3 → mjSt3 → Prop := offG (fun h j => (h = 97 ∧ j = 95) ∨ h = 165 ∨ h = 166) (fun _ _ => False)
/-- KIND v, seen as the CLASS j steps above -/
def chV (T : TT) (L : List CD) (v : Nat) : Nat → Option Nat
  | 0 => some v
  | j + 1 => match chV T L v j with
    | none => none
    | some w => match abT T L (cK w) with
      | none => none
      | some u => some (stand (nmL L) u w)
section MJA79
variable {T : TT} {d N b k t c n m v u w : Nat} {ks : List Nat} {L : List CD} {s s' : mjSt3}
theorem oUp.J (o : oUp s s') (J : RJ T N b ks L s) : RJ T N b ks L s' := J.off (o.1 97 63 (by omega)) (fun x hx => funext fun j => o.1 x j (by omega)) (funext fun x => funext fun j => o.2.1 x j (fun e => e))
theorem oUp.r (o : oUp s s') {h : Nat} (h1 : ¬ h = 97) (h2 : ¬ h = 165) (h3 : ¬ h = 166) : s'.1 h = s.1 h := funext fun j => o.1 h j (by omega)
theorem oUp.f (o : oUp s s') {j : Nat} (h1 : ¬ j = 95) : s'.1 97 j = s.1 97 j := o.1 97 j (by omega)
theorem oUp.l (o : oUp s s') : s'.2 = s.2 := Prod.ext (funext fun x => funext fun j => o.2.1 x j (fun e => e)) o.2.2
theorem oUp.A (o : oUp s s') (A : ABr T L b s c) : ABr T L b s' c := A.cg (o.r (by decide) (by decide) (by decide)) (o.r (by decide) (by decide) (by decide)) (o.r (by decide) (by decide) (by decide)) (o.r (by decide) (by decide) (by decide))
/-- a NAME in the KIND behind is is one of the CLASS -/
theorem ab_nm (hn : HN T N L) (h : abT T L c = some u) {i : Nat} (hi : i < nmL L (cK u)) (h5 : oK u i < 5) : oK u i < nmL L c := by
  unfold abT at h
  by_cases z : (hC L c).2.2.1 = 0
  · rw [if_pos z] at h; cases h
  rw [if_neg z] at h
  unfold kdT at h
  cases hc : clsK T L (kyT T (hC L c).2.2.1) with
  | none => rw [hc] at h; cases h
  | some e =>
    rw [hc] at h
    dsimp only at h
    have he : e < L.length := fnd_lt hc
    have n5 := vK.n5 hn he
    by_cases g : cntO T 6 ((hC L c).2.2.1 + 2) = (hC L e).2.1
    · rw [if_pos g] at h
      cases hf : fnd (fun i => decide (owT T L (some c) true ((hC L c).2.2.1 + 2 + 2 * i) = none)) (hC L e).2.1 with
      | some i => rw [hf] at h; cases h
      | none =>
        rw [hf] at h
        cases h
        have f8 : ∀ i, i < nmL L e → (owT T L (some c) true ((hC L c).2.2.1 + 2 + 2 * i)).getD 0 < 8 := by
          intro i hi
          cases ho : owT T L (some c) true ((hC L c).2.2.1 + 2 + 2 * i) with
          | none => show 0 < 8; omega
          | some x =>
            unfold owT at ho
            by_cases g13 : (T ((hC L c).2.2.1 + 2 + 2 * i)).1 = 13
            · rw [if_pos g13] at ho; cases ho; show 5 < 8; omega
            · rw [if_neg g13] at ho
              dsimp only at ho
              by_cases g12 : (T ((hC L c).2.2.1 + 2 + 2 * i)).1 = 12
              · rw [if_pos g12, if_pos rfl] at ho; cases ho
              · rw [if_neg g12] at ho
                have hx := fnd_lt ho
                by_cases hcl : c < L.length
                · have := (vK.n5 hn hcl).2
                  unfold nmL at this
                  show x < 8
                  omega
                · unfold hC at z
                  rw [List.getElem?_eq_none (by omega)] at z
                  exact absurd rfl z
        have ec : cK (mkK e (hC L e).2.1 (fun i => (owT T L (some c) true ((hC L c).2.2.1 + 2 + 2 * i)).getD 0)) = e := mkK_c n5.2 f8
        rw [ec] at hi
        have eo : oK (mkK e (hC L e).2.1 (fun i => (owT T L (some c) true ((hC L c).2.2.1 + 2 + 2 * i)).getD 0)) i = (owT T L (some c) true ((hC L c).2.2.1 + 2 + 2 * i)).getD 0 := mkK_o n5.2 f8 hi
        rw [eo] at h5 ⊢
        have nn := of_decide_eq_false (fnd_none.mp hf i hi)
        cases ho : owT T L (some c) true ((hC L c).2.2.1 + 2 + 2 * i) with
        | none => exact absurd ho nn
        | some x =>
          rw [ho] at h5
          have h5' : x < 5 := h5
          unfold owT at ho
          by_cases g13 : (T ((hC L c).2.2.1 + 2 + 2 * i)).1 = 13
          · rw [if_pos g13] at ho; cases ho; omega
          · rw [if_neg g13] at ho
            dsimp only at ho
            by_cases g12 : (T ((hC L c).2.2.1 + 2 + 2 * i)).1 = 12
            · rw [if_pos g12, if_pos rfl] at ho; cases ho
            · rw [if_neg g12] at ho
              exact fnd_lt ho
    · rw [if_neg g] at h; cases h
theorem stand_o (hn : HN T N L) (hu : vK L u) {i : Nat} (hi : i < nmL L (cK u)) : oK (stand (nmL L) u w) i = if oK u i < 5 then oK w (oK u i) else oK u i := mkK_o (vK.n5 hn (hu.cl hn)).2 (fun i _ => st_f) hi
theorem x_318 (hv : vK L v) (hn : HN T N L) (U : UPv L b s v) {o : Nat} (ho : o ≤ 6) (h5 : o < 5 → o < nmL L (cK v)) : mjF (d + 1) 318 [.ref 97, .int (oR o)] (mjW0 s) = some (some (.int (oR (if o < 5 then oK v o else o))), mjW0 s) := by
  have n5 := (vK.n5 hn (hv.cl hn)).2
  rw [e_318]
  unfold f_318 b_318_0
  by_cases g : o < 5
  · have e : oR o = nI o := by unfold oR; rw [if_neg (by omega), if_neg (by omega)]
    rw [if_pos g, e, if_neg (nI_pos (by omega)), xg_97_93, wa_165 (by omega), U.2 o (h5 g)]
  · rw [if_neg g]
    have key : ∀ o, o < 7 → ¬ o < 5 → oR o < 0 := by decide
    rw [if_pos (key o (by omega) g)]
theorem L317_12 (R : mjR) (n a : Nat) (b e : Int32) (hp : mjH) : L_317_12 R (n + 1) a b e hp = b_317_12 R (L_317_12 R n) a b e hp := rfl
theorem L317_59 (R : mjR) (n a : Nat) (b e : Int32) (hp : mjH) : L_317_59 R (n + 1) a b e hp = b_317_59 R (L_317_59 R n) a b e hp := rfl
/-- rise's first loop: upOther -/
theorem lq_317a (hn : HN T N L) (hv : vK L v) (hu : vK L u) (hk : k < 1600) (hnm : ∀ i, i < nmL L (cK u) → oK u i < 5 → oK u i < nmL L (cK v)) : ∀ (r i m : Nat) (s : mjSt3), i + r = 5 → r < m → UPv L b s v → s.1 138 k = nI (nmL L (cK u)) → KRr b s k (nmL L (cK u)) u → (∀ x, x < i → x < nmL L (cK u) → s.1 166 x = oR (oK (stand (nmL L) u v) x)) → ∃ s', L_317_12 (mjF (d + 1)) m 97 (nI k) (nI i) (mjW0 s) = L_317_59 (mjF (d + 1)) mjN 97 (nI k) (nI 0) (mjW0 s') ∧ oUp s s' ∧ s'.1 165 = s.1 165 ∧ s'.1 97 = s.1 97 ∧ ∀ x, x < nmL L (cK u) → s'.1 166 x = oR (oK (stand (nmL L) u v) x)
  | r, i, 0, s, e, hr, U, h8, K, w => by omega
  | 0, i, m + 1, s, e, hr, U, h8, K, w => by
    have n5 := (vK.n5 hn (hu.cl hn)).2
    refine ⟨s, ?_, offG.rf, rfl, rfl, fun x hx => w x (by omega) hx⟩
    rw [L317_12]
    unfold b_317_12
    rw [if_pos (show (5 : Int32) ≤ nI i from nI_le (a := 5) (by omega) (by omega))]
    rfl
  | r + 1, i, m + 1, s, e, hr, U, h8, K, w => by
    have n5 := (vK.n5 hn (hu.cl hn)).2
    have go : ∀ x : Int32, (i < nmL L (cK u) → x = oR (oK (stand (nmL L) u v) i)) → L_317_12 (mjF (d + 1)) (m + 1) 97 (nI k) (nI i) (mjW0 s) = L_317_12 (mjF (d + 1)) m 97 (nI k) (nI (i + 1)) (mjW0 (uI s 166 (upd (s.1 166) i x))) → ∃ s', L_317_12 (mjF (d + 1)) (m + 1) 97 (nI k) (nI i) (mjW0 s) = L_317_59 (mjF (d + 1)) mjN 97 (nI k) (nI 0) (mjW0 s') ∧ oUp s s' ∧ s'.1 165 = s.1 165 ∧ s'.1 97 = s.1 97 ∧ ∀ x, x < nmL L (cK u) → s'.1 166 x = oR (oK (stand (nmL L) u v) x) := by
      intro x hx pre
      have r1 : ∀ h, ¬ h = 166 → (uI s 166 (upd (s.1 166) i x)).1 h = s.1 h := fun h e => uI_ne _ _ _ _ e
      obtain ⟨s', b1, b2', b3, b4, b5⟩ := lq_317a hn hv hu hk hnm r (i + 1) m (uI s 166 (upd (s.1 166) i x)) (by omega) (by omega) ⟨by rw [r1 97 (by decide)]; exact U.1, fun y hy => by rw [r1 165 (by decide)]; exact U.2 y hy⟩ (by rw [r1 138 (by decide)]; exact h8) ⟨by rw [r1 139 (by decide)]; exact K.1, fun y hy => by rw [r1 142 (by decide)]; exact K.2 y hy⟩ (fun y hy hn' => by
        rw [uI_same, upd_g]
        by_cases e' : y = i
        · rw [if_pos e', hx (by omega), e']
        · rw [if_neg e']; exact w y (by omega) hn')
      have o1 : oUp s (uI s 166 (upd (s.1 166) i x)) := offG.w (Or.inr (Or.inr rfl))
      exact ⟨s', pre.trans b1, o1.tr b2', by rw [b3, r1 165 (by decide)], by rw [b4, r1 97 (by decide)], b5⟩
    by_cases g : i < nmL L (cK u)
    · refine go _ (fun _ => rfl) ?_
      rw [L317_12]
      unfold b_317_12 b_317_50
      rw [if_neg (show ¬ (5 : Int32) ≤ nI i from nI_ge (b := 5) (by omega) (by decide)), xg_97_94, xg_97_49, wa_138 hk, h8, if_neg (nI_ge g (by omega)), xg_97_53, i5m, wa_142 (by omega), K.2 i g, xV_97, x_318 hv hn U (hu.ow hn i (by omega)) (hnm i g), bI_s, ws_166 (by omega), nI_1, stand_o hn hu g]
    · refine go 0 (fun h => absurd h g) ?_
      rw [L317_12]
      unfold b_317_12 b_317_50
      rw [if_neg (show ¬ (5 : Int32) ≤ nI i from nI_ge (b := 5) (by omega) (by decide)), xg_97_94, xg_97_49, wa_138 hk, h8, if_pos (nI_le (by omega) (by omega)), ws_166 (by omega), nI_1]
theorem lq_317b {f : Nat → Int32} {vc : Int32} (hk : k < 1600) : ∀ (r i m : Nat) (s : mjSt3), i + r = 5 → r < m → s.1 139 k = vc → s.1 166 = f → (∀ x, x < i → s.1 165 x = f x) → ∃ s', L_317_59 (mjF (d + 1)) m 97 (nI k) (nI i) (mjW0 s) = some (none, mjW0 s') ∧ oUp s s' ∧ s'.1 97 95 = vc ∧ ∀ x, x < 5 → s'.1 165 x = f x
  | r, i, 0, s, e, hr, h9, h6, w => by omega
  | 0, i, m + 1, s, e, hr, h9, h6, w => by
    refine ⟨uI s 97 (upd (s.1 97) 95 vc), ?_, offG.w (Or.inl ⟨rfl, rfl⟩), by rw [uI_same, upd_g, if_pos rfl], fun x hx => by rw [uI_ne _ _ _ _ (by decide)]; exact w x (by omega)⟩
    rw [L317_59]
    unfold b_317_59
    rw [if_pos (show (5 : Int32) ≤ nI i from nI_le (a := 5) (by omega) (by omega)), xg_97_50, wa_139 hk, h9, xp_97_95]
  | r + 1, i, m + 1, s, e, hr, h9, h6, w => by
    obtain ⟨z, hz⟩ : ∃ z, z = uI s 165 (upd (s.1 165) i (f i)) := ⟨_, rfl⟩
    obtain ⟨s', b1, b2', b3, b4⟩ := lq_317b (f := f) (vc := vc) hk r (i + 1) m z (by omega) (by omega) (by rw [hz, uI_ne _ _ _ _ (by decide)]; exact h9) (by rw [hz, uI_ne _ _ _ _ (by decide)]; exact h6) (fun x hx => by
      rw [hz, uI_same, upd_g]
      by_cases e' : x = i
      · rw [if_pos e', e']
      · rw [if_neg e']; exact w x (by omega))
    refine ⟨s', ?_, (show oUp s z by rw [hz]; exact offG.w (Or.inr (Or.inl rfl))).tr b2', b3, b4⟩
    rw [← b1, L317_59]
    unfold b_317_59
    rw [if_neg (show ¬ (5 : Int32) ≤ nI i from nI_ge (b := 5) (by omega) (by decide)), xg_97_93, xg_97_94, wa_166 (by omega), h6, ws_165 (by omega), ← hz, nI_1]
/-- rise -/
theorem x_317 (hb : b ≤ 1) (h16 : L.length ≤ 16) (hn : HN T N L) (hv : vK L v) (U : UPv L b s v) (A : ABr T L b s (cK v)) (hu : abT T L (cK v) = some u) : ∃ s', mjF (d + 2) 317 [.ref 97] (mjW0 s) = some (none, mjW0 s') ∧ oUp s s' ∧ UPv L b s' (stand (nmL L) u v) ∧ vK L (stand (nmL L) u v) := by
  have hc := hv.cl hn
  unfold ABr at A
  rw [hu] at A
  obtain ⟨vu, k, k1, k2, k3, k4⟩ := A
  have n5 := (vK.n5 hn (vu.cl hn)).2
  obtain ⟨s1, a1, a2, a3, a4, a5⟩ := lq_317a (d := d) (b := b) hn hv vu k1 (fun i hi h5 => ab_nm hn hu hi h5) 5 0 mjN s (by omega) (by have := mjN_v; omega) U k3 k4 (fun x hx => by omega)
  obtain ⟨s', b1, b2', b3, b4⟩ := lq_317b (d := d) (f := s1.1 166) (vc := nI (16 * b + cK u)) k1 5 0 mjN s1 (by omega) (by have := mjN_v; omega) (by rw [a2.r (by decide) (by decide) (by decide)]; exact k4.1) rfl (fun x hx => by omega)
  refine ⟨s', ?_, a2.tr b2', ⟨?_, fun i hi => ?_⟩, vK.stand hn vu hv⟩
  · rw [e_317]
    unfold f_317 b_317_0
    rw [xg_97_16, xg_97_95, U.1, wa_105 (by omega), k2, show (0 : Int32) = nI 0 from rfl, a1]
    exact b1
  · rw [b3, stand_c hn vu]
  · rw [stand_c hn vu] at hi
    rw [b4 i (by omega), a5 i hi]
theorem L315_S (R : mjR) (n a : Nat) (b : Int32) (hp : mjH) : L_315_7 R (n + 1) a b hp = b_315_7 R (L_315_7 R n) a b hp := rfl
theorem lq_315 (R : mjR) : ∀ (r i m : Nat) (s : mjSt3), i + r = 5 → r < m → (∀ x, x < i → s.1 165 x = nI x) → ∃ s', L_315_7 R m 97 (nI i) (mjW0 s) = some (none, mjW0 s') ∧ oUp s s' ∧ s'.1 97 = s.1 97 ∧ ∀ x, x < 5 → s'.1 165 x = nI x
  | r, i, 0, s, e, hr, w => by omega
  | 0, i, m + 1, s, e, hr, w => by
    refine ⟨s, ?_, offG.rf, rfl, fun x hx => w x (by omega)⟩
    rw [L315_S]
    unfold b_315_7
    rw [if_pos (show (5 : Int32) ≤ nI i from nI_le (a := 5) (by omega) (by omega))]
  | r + 1, i, m + 1, s, e, hr, w => by
    obtain ⟨z, hz⟩ : ∃ z, z = uI s 165 (upd (s.1 165) i (nI i)) := ⟨_, rfl⟩
    obtain ⟨s', b1, b2', b3, b4⟩ := lq_315 R r (i + 1) m z (by omega) (by omega) (fun x hx => by
      rw [hz, uI_same, upd_g]
      by_cases e' : x = i
      · rw [if_pos e', e']
      · rw [if_neg e']; exact w x (by omega))
    refine ⟨s', ?_, (show oUp s z by rw [hz]; exact offG.w (Or.inr (Or.inl rfl))).tr b2', by rw [b3, hz, uI_ne _ _ _ _ (by decide)], b4⟩
    rw [← b1, L315_S]
    unfold b_315_7
    rw [if_neg (show ¬ (5 : Int32) ≤ nI i from nI_ge (b := 5) (by omega) (by decide)), xg_97_93, ws_165 (by omega), ← hz, nI_1]
/-- own -/
theorem x_315 (hn : HN T N L) (hc : c < L.length) : ∃ s', mjF (d + 1) 315 [.ref 97, .int (nI (16 * b + c))] (mjW0 s) = some (none, mjW0 s') ∧ oUp s s' ∧ UPv L b s' (own (nmL L) c) := by
  have n5 := (vK.n5 hn hc).2
  obtain ⟨z, hz⟩ : ∃ z, z = uI s 97 (upd (s.1 97) 95 (nI (16 * b + c))) := ⟨_, rfl⟩
  obtain ⟨s', b1, b2', b3, b4⟩ := lq_315 (mjF d) 5 0 mjN z (by omega) (by have := mjN_v; omega) (fun x hx => by omega)
  refine ⟨s', ?_, (show oUp s z by rw [hz]; exact offG.w (Or.inl ⟨rfl, rfl⟩)).tr b2', ?_, fun i hi => ?_⟩
  · rw [e_315]
    unfold f_315 b_315_0
    rw [xp_97_95, ← hz]
    exact b1
  · rw [own_c hn hc, b3, hz, uI_same, upd_g, if_pos rfl]
  · rw [own_c hn hc] at hi
    rw [b4 i (by omega), show oK (own (nmL L) c) i = i from mkK_o n5 (fun j hj => by show j < 8; omega) hi]
    unfold oR
    rw [if_neg (by omega), if_neg (by omega)]
end MJA79
