section
/-! ===== the reference: a KIND and those above it ===== -/
/-- up holds the OWNERS of KIND v -/
def UPv (L : List CD) (b : Nat) (s : mjSt3) (v : Nat) : Prop := s.1 97 95 = nI (16 * b + cK v) ∧ ∀ i, i < nmL L (cK v) → s.1 165 i = oR (oK v i)
/-- what own, rise, load and findMember change -/
def oUp : mjSt3 → mjSt3 → Prop := offG (fun h j => (h = 97 ∧ j = 95) ∨ h = 165 ∨ h = 166) (fun _ _ => False)
/-- KIND v, seen as the CLASS j steps above -/
def chV (T : TT) (L : List CD) (v : Nat) : Nat → Option Nat
  | 0 => some v
  | j + 1 => match chV T L v j with
    | none => none
    | some w => match abT T L (cK w) with
      | none => none
      | some u => some (stand (nmL L) u w)
section MJA79
variable {T : TT} {d N b k t c n m v u w : Nat} {ks : List Nat} {L : List CD} {s s' : mjSt3}
theorem oUp.J (o : oUp s s') (J : RJ T N b ks L s) : RJ T N b ks L s' := J.off (o.1 97 63 (by omega)) (fun x hx => funext fun j => o.1 x j (by omega)) (funext fun x => funext fun j => o.2.1 x j (fun e => e))
theorem oUp.r (o : oUp s s') {h : Nat} (h1 : ¬ h = 97) (h2 : ¬ h = 165) (h3 : ¬ h = 166) : s'.1 h = s.1 h := funext fun j => o.1 h j (by omega)
theorem oUp.f (o : oUp s s') {j : Nat} (h1 : ¬ j = 95) : s'.1 97 j = s.1 97 j := o.1 97 j (by omega)
theorem oUp.l (o : oUp s s') : s'.2 = s.2 := Prod.ext (funext fun x => funext fun j => o.2.1 x j (fun e => e)) o.2.2
theorem oUp.A (o : oUp s s') (A : ABr T L b s c) : ABr T L b s' c := A.cg (o.r (by decide) (by decide) (by decide)) (o.r (by decide) (by decide) (by decide)) (o.r (by decide) (by decide) (by decide)) (o.r (by decide) (by decide) (by decide))
/-- a NAME in the KIND behind is is one of the CLASS -/
theorem ab_nm (hn : HN T N L) (h : abT T L c = some u) {i : Nat} (hi : i < nmL L (cK u)) (h5 : oK u i < 5) : oK u i < nmL L c := by
  unfold abT at h
  by_cases z : (hC L c).2.2.1 = 0
  · rw [if_pos z] at h; cases h
  rw [if_neg z] at h
  unfold kdT at h
  cases hc : clsK T L (kyT T (hC L c).2.2.1) with
  | none => rw [hc] at h; cases h
  | some e =>
    rw [hc] at h
    dsimp only at h
    have he : e < L.length := fnd_lt hc
    have n5 := vK.n5 hn he
    by_cases g : cntO T 6 ((hC L c).2.2.1 + 2) = (hC L e).2.1
    · rw [if_pos g] at h
      cases hf : fnd (fun i => decide (owT T L (some c) true ((hC L c).2.2.1 + 2 + 2 * i) = none)) (hC L e).2.1 with
      | some i => rw [hf] at h; cases h
      | none =>
        rw [hf] at h
        cases h
        have f8 : ∀ i, i < nmL L e → (owT T L (some c) true ((hC L c).2.2.1 + 2 + 2 * i)).getD 0 < 8 := by
          intro i hi
          cases ho : owT T L (some c) true ((hC L c).2.2.1 + 2 + 2 * i) with
          | none => show 0 < 8; omega
          | some x =>
            unfold owT at ho
            by_cases g13 : (T ((hC L c).2.2.1 + 2 + 2 * i)).1 = 13
            · rw [if_pos g13] at ho; cases ho; show 5 < 8; omega
            · rw [if_neg g13] at ho
              dsimp only at ho
              by_cases g12 : (T ((hC L c).2.2.1 + 2 + 2 * i)).1 = 12
              · rw [if_pos g12, if_pos rfl] at ho; cases ho
              · rw [if_neg g12] at ho
                have hx := fnd_lt ho
                by_cases hcl : c < L.length
                · have := (vK.n5 hn hcl).2
                  unfold nmL at this
                  show x < 8
                  omega
                · unfold hC at z
                  rw [List.getElem?_eq_none (by omega)] at z
                  exact absurd rfl z
        have ec : cK (mkK e (hC L e).2.1 (fun i => (owT T L (some c) true ((hC L c).2.2.1 + 2 + 2 * i)).getD 0)) = e := mkK_c n5.2 f8
        rw [ec] at hi
        have eo : oK (mkK e (hC L e).2.1 (fun i => (owT T L (some c) true ((hC L c).2.2.1 + 2 + 2 * i)).getD 0)) i = (owT T L (some c) true ((hC L c).2.2.1 + 2 + 2 * i)).getD 0 := mkK_o n5.2 f8 hi
        rw [eo] at h5 ⊢
        have nn := of_decide_eq_false (fnd_none.mp hf i hi)
        cases ho : owT T L (some c) true ((hC L c).2.2.1 + 2 + 2 * i) with
        | none => exact absurd ho nn
        | some x =>
          rw [ho] at h5
          have h5' : x < 5 := h5
          unfold owT at ho
          by_cases g13 : (T ((hC L c).2.2.1 + 2 + 2 * i)).1 = 13
          · rw [if_pos g13] at ho; cases ho; omega
          · rw [if_neg g13] at ho
            dsimp only at ho
            by_cases g12 : (T ((hC L c).2.2.1 + 2 + 2 * i)).1 = 12
            · rw [if_pos g12, if_pos rfl] at ho; cases ho
            · rw [if_neg g12] at ho
              exact fnd_lt ho
    · rw [if_neg g] at h; cases h
theorem stand_o (hn : HN T N L) (hu : vK L u) {i : Nat} (hi : i < nmL L (cK u)) : oK (stand (nmL L) u w) i = if oK u i < 5 then oK w (oK u i) else oK u i := mkK_o (vK.n5 hn (hu.cl hn)).2 (fun i _ => st_f) hi
theorem x_318 (hv : vK L v) (hn : HN T N L) (U : UPv L b s v) {o : Nat} (ho : o ≤ 6) (h5 : o < 5 → o < nmL L (cK v)) : mjF (d + 1) 318 [.ref 97, .int (oR o)] (mjW0 s) = some (some (.int (oR (if o < 5 then oK v o else o))), mjW0 s) := by
  have n5 := (vK.n5 hn (hv.cl hn)).2
  rw [e_318]
  unfold f_318 b_318_0
  by_cases g : o < 5
  · have e : oR o = nI o := by unfold oR; rw [if_neg (by omega), if_neg (by omega)]
    rw [if_pos g, e, if_neg (nI_pos (by omega)), xg_97_93, wa_165 (by omega), U.2 o (h5 g)]
  · rw [if_neg g]
    have key : ∀ o, o < 7 → ¬ o < 5 → oR o < 0 := by decide
    rw [if_pos (key o (by omega) g)]
theorem L317_12 (R : mjR) (n a : Nat) (b e : Int32) (hp : mjH) : L_317_12 R (n + 1) a b e hp = b_317_12 R (L_317_12 R n) a b e hp := rfl
theorem L317_59 (R : mjR) (n a : Nat) (b e : Int32) (hp : mjH) : L_317_59 R (n + 1) a b e hp = b_317_59 R (L_317_59 R n) a b e hp := rfl
/-- rise's first loop: upOther -/
theorem lq_317a (hn : HN T N L) (hv : vK L v) (hu : vK L u) (hk : k < 1600) (hnm : ∀ i, i < nmL L (cK u) → oK u i < 5 → oK u i < nmL L (cK v)) : ∀ (r i m : Nat) (s : mjSt3), i + r = 5 → r < m → UPv L b s v → s.1 138 k = nI (nmL L (cK u)) → KRr b s k (nmL L (cK u)) u → (∀ x, x < i → x < nmL L (cK u) → s.1 166 x = oR (oK (stand (nmL L) u v) x)) → ∃ s', L_317_12 (mjF (d + 1)) m 97 (nI k) (nI i) (mjW0 s) = L_317_59 (mjF (d + 1)) mjN 97 (nI k) (nI 0) (mjW0 s') ∧ oUp s s' ∧ s'.1 165 = s.1 165 ∧ s'.1 97 = s.1 97 ∧ ∀ x, x < nmL L (cK u) → s'.1 166 x = oR (oK (stand (nmL L) u v) x)
  | r, i, 0, s, e, hr, U, h8, K, w => by omega
  | 0, i, m + 1, s, e, hr, U, h8, K, w => by
    have n5 := (vK.n5 hn (hu.cl hn)).2
    refine ⟨s, ?_, offG.rf, rfl, rfl, fun x hx => w x (by omega) hx⟩
    rw [L317_12]
    unfold b_317_12
    rw [if_pos (show (5 : Int32) ≤ nI i from nI_le (a := 5) (by omega) (by omega))]
    rfl
  | r + 1, i, m + 1, s, e, hr, U, h8, K, w => by
    have n5 := (vK.n5 hn (hu.cl hn)).2
    have go : ∀ x : Int32, (i < nmL L (cK u) → x = oR (oK (stand (nmL L) u v) i)) → L_317_12 (mjF (d + 1)) (m + 1) 97 (nI k) (nI i) (mjW0 s) = L_317_12 (mjF (d + 1)) m 97 (nI k) (nI (i + 1)) (mjW0 (uI s 166 (upd (s.1 166) i x))) → ∃ s', L_317_12 (mjF (d + 1)) (m + 1) 97 (nI k) (nI i) (mjW0 s) = L_317_59 (mjF (d + 1)) mjN 97 (nI k) (nI 0) (mjW0 s') ∧ oUp s s' ∧ s'.1 165 = s.1 165 ∧ s'.1 97 = s.1 97 ∧ ∀ x, x < nmL L (cK u) → s'.1 166 x = oR (oK (stand (nmL L) u v) x) := by
      intro x hx pre
      have r1 : ∀ h, ¬ h = 166 → (uI s 166 (upd (s.1 166) i x)).1 h = s.1 h := fun h e => uI_ne _ _ _ _ e
      obtain ⟨s', b1, b2', b3, b4, b5⟩ := lq_317a hn hv hu hk hnm r (i + 1) m (uI s 166 (upd (s.1 166) i x)) (by omega) (by omega) ⟨by rw [r1 97 (by decide)]; exact U.1, fun y hy => by rw [r1 165 (by decide)]; exact U.2 y hy⟩ (by rw [r1 138 (by decide)]; exact h8) ⟨by rw [r1 139 (by decide)]; exact K.1, fun y hy => by rw [r1 142 (by decide)]; exact K.2 y hy⟩ (fun y hy hn' => by
        rw [uI_same, upd_g]
        by_cases e' : y = i
        · rw [if_pos e', hx (by omega), e']
        · rw [if_neg e']; exact w y (by omega) hn')
      have o1 : oUp s (uI s 166 (upd (s.1 166) i x)) := offG.w (Or.inr (Or.inr rfl))
      exact ⟨s', pre.trans b1, o1.tr b2', by rw [b3, r1 165 (by decide)], by rw [b4, r1 97 (by decide)], b5⟩
    by_cases g : i < nmL L (cK u)
    · refine go _ (fun _ => rfl) ?_
      rw [L317_12]
      unfold b_317_12 b_317_50
      rw [if_neg (show ¬ (5 : Int32) ≤ nI i from nI_ge (b := 5) (by omega) (by decide)), xg_97_94, xg_97_49, wa_138 hk, h8, if_neg (nI_ge g (by omega)), xg_97_53, i5m, wa_142 (by omega), K.2 i g, xV_97, x_318 hv hn U (hu.ow hn i (by omega)) (hnm i g), bI_s, ws_166 (by omega), nI_1, stand_o hn hu g]
    · refine go 0 (fun h => absurd h g) ?_
      rw [L317_12]
      unfold b_317_12 b_317_50
      rw [if_neg (show ¬ (5 : Int32) ≤ nI i from nI_ge (b := 5) (by omega) (by decide)), xg_97_94, xg_97_49, wa_138 hk, h8, if_pos (nI_le (by omega) (by omega)), ws_166 (by omega), nI_1]
theorem lq_317b {f : Nat → Int32} {vc : Int32} (hk : k < 1600) : ∀ (r i m : Nat) (s : mjSt3), i + r = 5 → r < m → s.1 139 k = vc → s.1 166 = f → (∀ x, x < i → s.1 165 x = f x) → ∃ s', L_317_59 (mjF (d + 1)) m 97 (nI k) (nI i) (mjW0 s) = some (none, mjW0 s') ∧ oUp s s' ∧ s'.1 97 95 = vc ∧ ∀ x, x < 5 → s'.1 165 x = f x
  | r, i, 0, s, e, hr, h9, h6, w => by omega
  | 0, i, m + 1, s, e, hr, h9, h6, w => by
    refine ⟨uI s 97 (upd (s.1 97) 95 vc), ?_, offG.w (Or.inl ⟨rfl, rfl⟩), by rw [uI_same, upd_g, if_pos rfl], fun x hx => by rw [uI_ne _ _ _ _ (by decide)]; exact w x (by omega)⟩
    rw [L317_59]
    unfold b_317_59
    rw [if_pos (show (5 : Int32) ≤ nI i from nI_le (a := 5) (by omega) (by omega)), xg_97_50, wa_139 hk, h9, xp_97_95]
  | r + 1, i, m + 1, s, e, hr, h9, h6, w => by
    obtain ⟨z, hz⟩ : ∃ z, z = uI s 165 (upd (s.1 165) i (f i)) := ⟨_, rfl⟩
    obtain ⟨s', b1, b2', b3, b4⟩ := lq_317b (f := f) (vc := vc) hk r (i + 1) m z (by omega) (by omega) (by rw [hz, uI_ne _ _ _ _ (by decide)]; exact h9) (by rw [hz, uI_ne _ _ _ _ (by decide)]; exact h6) (fun x hx => by
      rw [hz, uI_same, upd_g]
      by_cases e' : x = i
      · rw [if_pos e', e']
      · rw [if_neg e']; exact w x (by omega))
    refine ⟨s', ?_, (show oUp s z by rw [hz]; exact offG.w (Or.inr (Or.inl rfl))).tr b2', b3, b4⟩
    rw [← b1, L317_59]
    unfold b_317_59
    rw [if_neg (show ¬ (5 : Int32) ≤ nI i from nI_ge (b := 5) (by omega) (by decide)), xg_97_93, xg_97_94, wa_166 (by omega), h6, ws_165 (by omega), ← hz, nI_1]
/-- rise -/
theorem x_317 (hb : b ≤ 1) (h16 : L.length ≤ 16) (hn : HN T N L) (hv : vK L v) (U : UPv L b s v) (A : ABr T L b s (cK v)) (hu : abT T L (cK v) = some u) : ∃ s', mjF (d + 2) 317 [.ref 97] (mjW0 s) = some (none, mjW0 s') ∧ oUp s s' ∧ UPv L b s' (stand (nmL L) u v) ∧ vK L (stand (nmL L) u v) := by
  have hc := hv.cl hn
  unfold ABr at A
  rw [hu] at A
  obtain ⟨vu, k, k1, k2, k3, k4⟩ := A
  have n5 := (vK.n5 hn (vu.cl hn)).2
  obtain ⟨s1, a1, a2, a3, a4, a5⟩ := lq_317a (d := d) (b := b) hn hv vu k1 (fun i hi h5 => ab_nm hn hu hi h5) 5 0 mjN s (by omega) (by have := mjN_v; omega) U k3 k4 (fun x hx => by omega)
  obtain ⟨s', b1, b2', b3, b4⟩ := lq_317b (d := d) (f := s1.1 166) (vc := nI (16 * b + cK u)) k1 5 0 mjN s1 (by omega) (by have := mjN_v; omega) (by rw [a2.r (by decide) (by decide) (by decide)]; exact k4.1) rfl (fun x hx => by omega)
  refine ⟨s', ?_, a2.tr b2', ⟨?_, fun i hi => ?_⟩, vK.stand hn vu hv⟩
  · rw [e_317]
    unfold f_317 b_317_0
    rw [xg_97_16, xg_97_95, U.1, wa_105 (by omega), k2, show (0 : Int32) = nI 0 from rfl, a1]
    exact b1
  · rw [b3, stand_c hn vu]
  · rw [stand_c hn vu] at hi
    rw [b4 i (by omega), a5 i hi]
theorem L315_S (R : mjR) (n a : Nat) (b : Int32) (hp : mjH) : L_315_7 R (n + 1) a b hp = b_315_7 R (L_315_7 R n) a b hp := rfl
theorem lq_315 (R : mjR) : ∀ (r i m : Nat) (s : mjSt3), i + r = 5 → r < m → (∀ x, x < i → s.1 165 x = nI x) → ∃ s', L_315_7 R m 97 (nI i) (mjW0 s) = some (none, mjW0 s') ∧ oUp s s' ∧ s'.1 97 = s.1 97 ∧ ∀ x, x < 5 → s'.1 165 x = nI x
  | r, i, 0, s, e, hr, w => by omega
  | 0, i, m + 1, s, e, hr, w => by
    refine ⟨s, ?_, offG.rf, rfl, fun x hx => w x (by omega)⟩
    rw [L315_S]
    unfold b_315_7
    rw [if_pos (show (5 : Int32) ≤ nI i from nI_le (a := 5) (by omega) (by omega))]
  | r + 1, i, m + 1, s, e, hr, w => by
    obtain ⟨z, hz⟩ : ∃ z, z = uI s 165 (upd (s.1 165) i (nI i)) := ⟨_, rfl⟩
    obtain ⟨s', b1, b2', b3, b4⟩ := lq_315 R r (i + 1) m z (by omega) (by omega) (fun x hx => by
      rw [hz, uI_same, upd_g]
      by_cases e' : x = i
      · rw [if_pos e', e']
      · rw [if_neg e']; exact w x (by omega))
    refine ⟨s', ?_, (show oUp s z by rw [hz]; exact offG.w (Or.inr (Or.inl rfl))).tr b2', by rw [b3, hz, uI_ne _ _ _ _ (by decide)], b4⟩
    rw [← b1, L315_S]
    unfold b_315_7
    rw [if_neg (show ¬ (5 : Int32) ≤ nI i from nI_ge (b := 5) (by omega) (by decide)), xg_97_93, ws_165 (by omega), ← hz, nI_1]
/-- own -/
theorem x_315 (hn : HN T N L) (hc : c < L.length) : ∃ s', mjF (d + 1) 315 [.ref 97, .int (nI (16 * b + c))] (mjW0 s) = some (none, mjW0 s') ∧ oUp s s' ∧ UPv L b s' (own (nmL L) c) := by
  have n5 := (vK.n5 hn hc).2
  obtain ⟨z, hz⟩ : ∃ z, z = uI s 97 (upd (s.1 97) 95 (nI (16 * b + c))) := ⟨_, rfl⟩
  obtain ⟨s', b1, b2', b3, b4⟩ := lq_315 (mjF d) 5 0 mjN z (by omega) (by have := mjN_v; omega) (fun x hx => by omega)
  refine ⟨s', ?_, (show oUp s z by rw [hz]; exact offG.w (Or.inl ⟨rfl, rfl⟩)).tr b2', ?_, fun i hi => ?_⟩
  · rw [e_315]
    unfold f_315 b_315_0
    rw [xp_97_95, ← hz]
    exact b1
  · rw [own_c hn hc, b3, hz, uI_same, upd_g, if_pos rfl]
  · rw [own_c hn hc] at hi
    rw [b4 i (by omega), show oK (own (nmL L) c) i = i from mkK_o n5 (fun j hj => by show j < 8; omega) hi]
    unfold oR
    rw [if_neg (by omega), if_neg (by omega)]
end MJA79
end
section
/-! ===== the reference: findMember ===== -/
/-- the first MEMBER of that name and sort (2: any) told in CLASS a -/
def fmR (T : TT) (L : List CD) (w : Int32) (key : Int64) (a : Nat) : Option Nat := match fnd (fun i => decide (nkM T L (fmL L a + i) = key) && (decide (w = 2) || decide (b2 (mSM L (fmL L a + i)) = w))) (mcL L a) with
  | none => none
  | some i => some (fmL L a + i)
def mR (b : Nat) (o : Option Nat) : Int32 := match o with
  | none => -1
  | some m => nI (400 * b + m)
section MJA80
variable {T : TT} {d N b k t c n m v u a : Nat} {ks : List Nat} {L : List CD} {s s' : mjSt3} {w : Int32} {key : Int64}
theorem chV_S : ∀ (j : Nat) (v : Nat), chV T L v (j + 1) = match abT T L (cK v) with
    | none => none
    | some u => chV T L (stand (nmL L) u v) j
  | 0, v => by
    show (match abT T L (cK v) with
      | none => none
      | some u => some (stand (nmL L) u v)) = _
    cases abT T L (cK v) <;> rfl
  | j + 1, v => by
    have ih := chV_S j v
    show (match chV T L v (j + 1) with
      | none => none
      | some w => match abT T L (cK w) with
        | none => none
        | some u => some (stand (nmL L) u w)) = _
    rw [ih]
    cases abT T L (cK v) <;> rfl
theorem RJ.sort (J : RJ T N b ks L s) (hm : m < nMem L) : s.1 125 (400 * b + m) = b2 (mSM L m) := (J.mem hm).1.2.1
theorem L316_58 (R : mjR) (k : Nat → Int64 → Int32 → Int32 → Int32 → mjH → mjU) (n a : Nat) (x : Int64) (b e f g : Int32) (hp : mjH) : L_316_58 R k (n + 1) a x b e f g hp = b_316_58 R k (L_316_58 R k n) a x b e f g hp := rfl
theorem L316_29 (R : mjR) (n a : Nat) (x : Int64) (b e f : Int32) (hp : mjH) : L_316_29 R (n + 1) a x b e f hp = b_316_29 R (L_316_29 R n) a x b e f hp := rfl
theorem RJ.mc (J : RJ T N b ks L s) (ha : a < L.length) : s.1 108 (16 * b + a) = nI (mcL L a) ∧ s.1 107 (16 * b + a) = nI (fmL L a) ∧ fmL L a + mcL L a ≤ nMem L ∧ mcL L a ≤ 24 := by
  obtain ⟨E, hE⟩ : ∃ E, L[a]? = some E := ⟨_, List.getElem?_eq_getElem ha⟩
  have mc : mcL L a = E.2.length := by unfold mcL; rw [hE]
  have tk : fmL L a + E.2.length ≤ nMem L := nMem_take hE
  refine ⟨by rw [mc]; exact (J.2.1.2.2 a E hE).2.1, (J.hd ha).2.2.2.2.2.2.1, by omega, by rw [mc]; exact J.2.2.2.2.1 a E hE⟩
theorem lq_316i (J : RJ T N b ks L s) (ha : a < L.length) (h95 : s.1 97 95 = nI (16 * b + a)) (R : mjR) {k29 : Nat → Int64 → Int32 → Int32 → Int32 → mjH → mjU} : ∀ (r i n : Nat), i + r = mcL L a → r + 1 < n → (∀ x, x < i → (decide (nkM T L (fmL L a + x) = key) && (decide (w = 2) || decide (b2 (mSM L (fmL L a + x)) = w))) = false) → L_316_58 R k29 n 97 key w (-1) (nI (400 * b + fmL L a)) (nI (400 * b + fmL L a + i)) (mjW0 s) = b_316_119 R k29 97 key w (mR b (fmR T L w key a)) (mjW0 s)
  | r, i, 0, e, hr, h => by omega
  | 0, i, n + 1, e, hr, h => by
    have hb := J.b1
    have h16 := J.len
    have m384 := J.n384
    obtain ⟨c1, c2, c3, c4⟩ := J.mc ha
    rw [L316_58]
    unfold b_316_58 fmR
    rw [xg_97_19, xg_97_95, h95, wa_108 (by omega), c1, nI_ad, if_pos (nI_le (by omega) (by omega)), fnd_none.mpr (fun x hx => h x (by omega))]
    rfl
  | r + 1, i, n + 1, e, hr, h => by
    have hb := J.b1
    have h16 := J.len
    have m384 := J.n384
    obtain ⟨c1, c2, c3, c4⟩ := J.mc ha
    have hm : fmL L a + i < nMem L := by omega
    have v1 : s.2.1 132 (400 * b + fmL L a + i) = nkM T L (fmL L a + i) := by rw [Nat.add_assoc]; exact J.mn hm
    have v2 : s.1 125 (400 * b + fmL L a + i) = b2 (mSM L (fmL L a + i)) := by rw [Nat.add_assoc]; exact J.sort hm
    have pre : L_316_58 R k29 (n + 1) 97 key w (-1) (nI (400 * b + fmL L a)) (nI (400 * b + fmL L a + i)) (mjW0 s) = if (decide (nkM T L (fmL L a + i) = key) && (decide (w = 2) || decide (b2 (mSM L (fmL L a + i)) = w))) = true then L_316_58 R k29 n 97 key w (nI (400 * b + fmL L a + i)) (nI (400 * b + fmL L a)) (nI (400 * b + fmL L a + (i + 1))) (mjW0 s) else L_316_58 R k29 n 97 key w (-1) (nI (400 * b + fmL L a)) (nI (400 * b + fmL L a + (i + 1))) (mjW0 s) := by
      rw [L316_58]
      unfold b_316_58 b_316_109 b_316_113
      rw [xg_97_19, xg_97_95, h95, wa_108 (by omega), c1, nI_ad, if_neg (nI_ge (by omega) (by omega)), if_pos rfl, xg_97_43, wa_132 (by omega), v1, xg_97_36, wa_125 (by omega), v2, nI_1, show 400 * b + fmL L a + i + 1 = 400 * b + fmL L a + (i + 1) by omega]
      by_cases q : nkM T L (fmL L a + i) = key
      · rw [if_pos ((lg_cmp_eq _ _).mpr q), decide_eq_true q, Bool.true_and]
        by_cases q2 : w = 2
        · rw [if_pos q2, decide_eq_true q2]
          rfl
        · rw [if_neg q2, decide_eq_false q2, Bool.false_or]
          by_cases q3 : b2 (mSM L (fmL L a + i)) = w
          · rw [if_pos q3, decide_eq_true q3]
            rfl
          · rw [if_neg q3, decide_eq_false q3]
            rfl
      · rw [if_neg (fun x => q ((lg_cmp_eq _ _).mp x)), decide_eq_false q, Bool.false_and]
        rfl
    rw [pre]
    by_cases q : (decide (nkM T L (fmL L a + i) = key) && (decide (w = 2) || decide (b2 (mSM L (fmL L a + i)) = w))) = true
    · rw [if_pos q]
      obtain ⟨n', rfl⟩ : ∃ n', n = n' + 1 := ⟨n - 1, by omega⟩
      have fe : fmR T L w key a = some (fmL L a + i) := by
        have hf : fnd (fun i => decide (nkM T L (fmL L a + i) = key) && (decide (w = 2) || decide (b2 (mSM L (fmL L a + i)) = w))) (mcL L a) = some i := fnd_some.mpr ⟨by omega, q, h⟩
        unfold fmR
        rw [hf]
      rw [L316_58, fe]
      unfold b_316_58
      rw [xg_97_19, xg_97_95, h95, wa_108 (by omega), c1, nI_ad, if_neg (show ¬ nI (400 * b + fmL L a + i) = -1 from nI_m1 (by omega)), ite_self, show mR b (some (fmL L a + i)) = nI (400 * b + fmL L a + i) by rw [Nat.add_assoc]; rfl]
    · rw [if_neg q]
      refine lq_316i J ha h95 R r (i + 1) n (by omega) (by omega) (fun x hx => ?_)
      by_cases e' : x = i
      · rw [e']; exact Bool.not_eq_true _ ▸ q
      · exact h x (by omega)
theorem mR_m1 (hb : b ≤ 1) (hm : ∀ m, fmR T L w key a = some m → m < 400) : mR b (fmR T L w key a) = -1 ↔ fmR T L w key a = none := by
  cases h : fmR T L w key a with
  | none => exact ⟨fun _ => rfl, fun _ => rfl⟩
  | some m =>
    have := hm m h
    exact ⟨fun e => absurd e (nI_m1 (by omega)), fun e => by cases e⟩
theorem fmR_lt (h : fmR T L w key a = some m) : fmL L a ≤ m ∧ m < fmL L a + mcL L a := by
  unfold fmR at h
  cases hf : fnd (fun i => decide (nkM T L (fmL L a + i) = key) && (decide (w = 2) || decide (b2 (mSM L (fmL L a + i)) = w))) (mcL L a) with
  | none => rw [hf] at h; cases h
  | some i =>
    rw [hf] at h
    have := fnd_lt hf
    have e : fmL L a + i = m := by simpa using h
    omega
/-- the walk up -/
theorem lq_316 (Ac : ACY T N L) : ∀ (r n : Nat) (s : mjSt3) (v : Nat), upI (upT T L) (r + 1) (cK v) = none → r + 2 < n → RJ T N b ks L s → (∀ x, x < L.length → ABr T L b s x) → vK L v → UPv L b s v → ∃ s' v' j, L_316_29 (mjF (d + 2)) n 97 key w (-1) 1 (mjW0 s) = some (some (.int (mR b (fmR T L w key (cK v')))), mjW0 s') ∧ oUp s s' ∧ UPv L b s' v' ∧ vK L v' ∧ chV T L v j = some v' ∧ (∀ i, i < j → ∀ x, chV T L v i = some x → fmR T L w key (cK x) = none) ∧ (fmR T L w key (cK v') = none → abT T L (cK v') = none)
  | r, 0, s, v, hu, hr, J, A, hv, U => by omega
  | r, 1, s, v, hu, hr, J, A, hv, U => by omega
  | r, n + 2, s, v, hu, hr, J, A, hv, U => by
    have hn := Ac.1
    have hb := J.b1
    have h16 := J.len
    have m384 := J.n384
    have ha := hv.cl hn
    obtain ⟨c1, c2, c3, c4⟩ := J.mc ha
    have fin : ∀ x : Int32, L_316_29 (mjF (d + 2)) (n + 1) 97 key w x 0 (mjW0 s) = some (some (.int x), mjW0 s) := fun x => by
      rw [L316_29]
      unfold b_316_29
      rw [if_pos rfl]
    have pre : L_316_29 (mjF (d + 2)) (n + 2) 97 key w (-1) 1 (mjW0 s) = b_316_119 (mjF (d + 2)) (L_316_29 (mjF (d + 2)) (n + 1)) 97 key w (mR b (fmR T L w key (cK v))) (mjW0 s) := by
      rw [L316_29]
      unfold b_316_29
      rw [if_neg (by decide), xg_97_18, xg_97_95, U.1, wa_107 (by omega), c2, xg_97_63, J.1.2, i4m]
      exact lq_316i J ha U.1 _ (mcL L (cK v)) 0 mjN (by omega) (by have := mjN_v; omega) (fun x hx => by omega)
    have ml : ∀ m, fmR T L w key (cK v) = some m → m < 400 := fun m h => by have := fmR_lt h; omega
    unfold b_316_119 b_316_141 b_316_142 b_316_153 at pre
    by_cases q : fmR T L w key (cK v) = none
    · rw [if_pos ((mR_m1 hb ml).mpr q), xg_97_95, U.1, xV_97, x_242 hb h16 hn ha (A _ ha), bI_s] at pre
      cases hab : abT T L (cK v) with
      | none =>
        have up0 : upT T L (cK v) = none := by unfold upT; rw [hab]; rfl
        rw [up0, if_pos (show cR b none = -1 from rfl), if_pos rfl, fin] at pre
        exact ⟨s, v, 0, pre, offG.rf, U, hv, rfl, fun i hi => by omega, fun _ => hab⟩
      | some u =>
        have up1 : upT T L (cK v) = some (cK u) := by unfold upT; rw [hab]; rfl
        have ul : cK u < L.length := up_lt hn ha up1
        obtain ⟨s1, a1, a2, a3, a4⟩ := x_317 (d := d) hb h16 hn hv U (A _ ha) hab
        rw [up1, if_neg (show ¬ cR b (some (cK u)) = -1 from nI_m1 (by omega)), if_neg (by decide), xV_97, a1, bN_s, show mR b (fmR T L w key (cK v)) = -1 from (mR_m1 hb ml).mpr q] at pre
        have vu := ab_v hn ha hab
        cases r with
        | zero =>
          have : upT T L (cK v) = none := by
            have e : upI (upT T L) 1 (cK v) = upT T L (cK v) := by
              unfold upI
              cases upT T L (cK v) <;> rfl
            rw [← e]; exact hu
          rw [up1] at this
          cases this
        | succ r =>
          have hu' : upI (upT T L) (r + 1) (cK (stand (nmL L) u v)) = none := by
            rw [stand_c hn vu]
            have e : upI (upT T L) (r + 1 + 1) (cK v) = upI (upT T L) (r + 1) (cK u) := by
              rw [show r + 1 + 1 = 1 + (r + 1) by omega, upI_add]
              have e1 : upI (upT T L) 1 (cK v) = some (cK u) := by
                unfold upI
                rw [up1]
                rfl
              rw [e1]
            rw [← e]; exact hu
          obtain ⟨s', v', j, b1, b2', b3, b4, b5, b6, b7⟩ := lq_316 Ac r (n + 1) s1 (stand (nmL L) u v) hu' (by omega) (oUp.J a2 J) (fun x hx => a2.A (A x hx)) a4 a3
          refine ⟨s', v', j + 1, pre.trans b1, a2.tr b2', b3, b4, ?_, fun i hi x hx => ?_, b7⟩
          · rw [chV_S, hab]; exact b5
          · cases i with
            | zero => cases hx; exact q
            | succ i =>
              rw [chV_S, hab] at hx
              exact b6 i (by omega) x hx
    · rw [if_neg (fun x => q ((mR_m1 hb ml).mp x)), if_pos rfl, fin] at pre
      exact ⟨s, v, 0, pre, offG.rf, U, hv, rfl, fun i hi => by omega, fun x => absurd x q⟩
theorem up16 (Ac : ACY T N L) (hc : c < L.length) : upI (upT T L) 16 c = none := by
  cases h : upI (upT T L) 16 c with
  | none => rfl
  | some n => exact absurd (up_end Ac hc h) (by omega)
/-- findMember from KIND v on -/
theorem x_316 (Ac : ACY T N L) (J : RJ T N b ks L s) (A : ∀ x, x < L.length → ABr T L b s x) (hv : vK L v) (U : UPv L b s v) : ∃ s' v' j, mjF (d + 3) 316 [.ref 97, .long key, .int w, .int 0] (mjW0 s) = some (some (.int (mR b (fmR T L w key (cK v')))), mjW0 s') ∧ oUp s s' ∧ UPv L b s' v' ∧ vK L v' ∧ chV T L v j = some v' ∧ (∀ i, i < j → ∀ x, chV T L v i = some x → fmR T L w key (cK x) = none) ∧ (fmR T L w key (cK v') = none → abT T L (cK v') = none) := by
  have hc := hv.cl Ac.1
  obtain ⟨s', v', j, b1, b2⟩ := lq_316 (d := d) (key := key) (w := w) Ac 15 mjN s v (up16 Ac hc) (by have := mjN_v; omega) J A hv U
  refine ⟨s', v', j, ?_, b2⟩
  rw [e_316]
  unfold f_316 b_316_0 b_316_23
  rw [if_pos rfl]
  exact b1
/-- findMember above KIND v alone -/
theorem x_316a (Ac : ACY T N L) (J : RJ T N b ks L s) (A : ∀ x, x < L.length → ABr T L b s x) (hv : vK L v) (U : UPv L b s v) : (abT T L (cK v) = none → mjF (d + 3) 316 [.ref 97, .long key, .int w, .int 1] (mjW0 s) = some (some (.int (-1)), mjW0 s)) ∧ ∀ u, abT T L (cK v) = some u → ∃ s' v' j, mjF (d + 3) 316 [.ref 97, .long key, .int w, .int 1] (mjW0 s) = some (some (.int (mR b (fmR T L w key (cK v')))), mjW0 s') ∧ oUp s s' ∧ UPv L b s' v' ∧ vK L v' ∧ chV T L (stand (nmL L) u v) j = some v' ∧ (∀ i, i < j → ∀ x, chV T L (stand (nmL L) u v) i = some x → fmR T L w key (cK x) = none) ∧ (fmR T L w key (cK v') = none → abT T L (cK v') = none) := by
  have hn := Ac.1
  have hb := J.b1
  have h16 := J.len
  have hc := hv.cl hn
  have pre : mjF (d + 3) 316 [.ref 97, .long key, .int w, .int 1] (mjW0 s) = if cR b (upT T L (cK v)) = -1 then some (some (.int (-1)), mjW0 s) else bN (mjF (d + 2) 317 [.ref 97] (mjW0 s)) (fun hp4 => b_316_23 (mjF (d + 2)) 97 key w hp4) := by
    rw [e_316]
    unfold f_316 b_316_0
    rw [if_neg (by decide), xg_97_95, U.1, xV_97, x_242 hb h16 hn hc (A _ hc), bI_s, xV_97]
  constructor
  · intro hab
    have up0 : upT T L (cK v) = none := by unfold upT; rw [hab]; rfl
    rw [pre, up0, if_pos (show cR b none = -1 from rfl)]
  · intro u hab
    have up1 : upT T L (cK v) = some (cK u) := by unfold upT; rw [hab]; rfl
    have ul : cK u < L.length := up_lt hn hc up1
    obtain ⟨s1, a1, a2, a3, a4⟩ := x_317 (d := d) hb h16 hn hv U (A _ hc) hab
    have vu := ab_v hn hc hab
    obtain ⟨s', v', j, b1, b2, b3⟩ := lq_316 (d := d) (key := key) (w := w) Ac 15 mjN s1 (stand (nmL L) u v) (by rw [stand_c hn vu]; exact up16 Ac ul) (by have := mjN_v; omega) (oUp.J a2 J) (fun x hx => a2.A (A x hx)) a4 a3
    refine ⟨s', v', j, ?_, a2.tr b2, b3⟩
    rw [pre, up1, if_neg (show ¬ cR b (some (cK u)) = -1 from nI_m1 (by omega)), a1, bN_s]
    exact b1
end MJA80
end
section
/-! ===== the reference: isLikeType, isLike ===== -/
section MJA81
variable {T : TT} {d N b k t c n m v u a o : Nat} {ks : List Nat} {L : List CD} {s s' : mjSt3} {ti to : Int32}
/-- a NAME in a KIND of CLASS c is one of c's -/
theorem kd_nm (hn : HN T N L) (hcl : c < L.length) {beh : Bool} (h : kdT T L (some c) beh t = some u) {i : Nat} (hi : i < nmL L (cK u)) (h5 : oK u i < 5) : oK u i < nmL L c := by
  unfold kdT at h
  cases hc : clsK T L (kyT T t) with
  | none => rw [hc] at h; cases h
  | some e =>
    rw [hc] at h
    dsimp only at h
    have he : e < L.length := fnd_lt hc
    have n5 := vK.n5 hn he
    by_cases g : cntO T 6 (t + 2) = (hC L e).2.1
    · rw [if_pos g] at h
      cases hf : fnd (fun i => decide (owT T L (some c) beh (t + 2 + 2 * i) = none)) (hC L e).2.1 with
      | some i => rw [hf] at h; cases h
      | none =>
        rw [hf] at h
        cases h
        have f8 : ∀ i, i < nmL L e → (owT T L (some c) beh (t + 2 + 2 * i)).getD 0 < 8 := by
          intro i hi
          cases ho : owT T L (some c) beh (t + 2 + 2 * i) with
          | none => show 0 < 8; omega
          | some x =>
            have := owT_le hn (fun c' e => by cases e; exact hcl) ho
            show x < 8
            omega
        have ec : cK (mkK e (hC L e).2.1 (fun i => (owT T L (some c) beh (t + 2 + 2 * i)).getD 0)) = e := mkK_c n5.2 f8
        rw [ec] at hi
        have eo : oK (mkK e (hC L e).2.1 (fun i => (owT T L (some c) beh (t + 2 + 2 * i)).getD 0)) i = (owT T L (some c) beh (t + 2 + 2 * i)).getD 0 := mkK_o n5.2 f8 hi
        rw [eo] at h5 ⊢
        have nn := of_decide_eq_false (fnd_none.mp hf i hi)
        cases ho : owT T L (some c) beh (t + 2 + 2 * i) with
        | none => exact absurd ho nn
        | some x =>
          rw [ho] at h5
          have h5' : x < 5 := h5
          unfold owT at ho
          by_cases g13 : (T (t + 2 + 2 * i)).1 = 13
          · rw [if_pos g13] at ho; cases ho; omega
          · rw [if_neg g13] at ho
            dsimp only at ho
            by_cases g12 : (T (t + 2 + 2 * i)).1 = 12
            · rw [if_pos g12] at ho
              by_cases gb : beh = true
              · rw [if_pos gb] at ho; cases ho
              · rw [if_neg gb] at ho; cases ho; omega
            · rw [if_neg g12] at ho
              exact fnd_lt ho
    · rw [if_neg g] at h; cases h
/-- a TYPE's NAMES are those of CLASS c -/
def tyN (L : List CD) (c ty : Nat) : Prop := ∀ kk, ty = kk + 2 → ∀ i, i < nmL L (cK kk) → oK kk i < 5 → oK kk i < nmL L c
theorem tyT_N (hn : HN T N L) (hcl : c < L.length) : tyN L c (tyT T L (some c) t) := by
  intro kk h i hi h5
  unfold tyT at h
  by_cases g : (T t).1 = 10
  · rw [if_pos g] at h; omega
  · rw [if_neg g] at h
    cases hk : kdT T L (some c) false t with
    | none => rw [hk] at h; exact absurd (show 0 = kk + 2 from h) (by omega)
    | some x =>
      rw [hk] at h
      have e : x = kk := by
        have : x + 2 = kk + 2 := h
        omega
      subst e
      exact kd_nm hn hcl hk hi h5
theorem vK.eq (hn : HN T N L) (h : vK L k) : k = mkK (cK k) (nmL L (cK k)) (fun i => oK k i) := by
  obtain ⟨e, f, h1, h2, h3⟩ := h
  have n5 := (vK.n5 hn h1).2
  have f8 : ∀ i, i < nmL L e → f i < 8 := fun i hi => by have := h3 i hi; omega
  have ec : cK k = e := by rw [h2]; exact mkK_c n5 f8
  rw [ec]
  conv => lhs; rw [h2]
  refine mkK_cg (fun i hi => ?_)
  rw [h2]
  exact (mkK_o n5 f8 hi).symm
theorem L320_S (R : mjR) (n a : Nat) (b e f g : Int32) (hp : mjH) : L_320_46 R (n + 1) a b e f g hp = b_320_46 R (L_320_46 R n) a b e f g hp := rfl
theorem lq_320 {ka kb ia ib : Nat} (hn : HN T N L) (hv : vK L v) (U : UPv L b s v) (va : vK L ka) (vb : vK L kb) (ha : ia < 1600) (hb' : ib < 1600) (ca : s.1 138 ia = nI (nmL L (cK ka))) (Ka : KRr b s ia (nmL L (cK ka)) ka) (Kb : KRr b s ib (nmL L (cK kb)) kb) (hnm : tyN L (cK v) (kb + 2)) : ∀ (r i n : Nat) (g : Bool), i + r = nmL L (cK ka) → r < n → (g = true → cK ka = cK kb) → L_320_46 (mjF (d + 1)) n 97 (nI ia) (nI ib) (b2 g) (nI i) (mjW0 s) = some (some (.int (b2 (g && allR (fun i => decide (oK ka i = if oK kb i < 5 then oK v (oK kb i) else oK kb i)) i r))), mjW0 s)
  | r, i, 0, g, e, hr, hg => by omega
  | 0, i, n + 1, g, e, hr, hg => by
    have n5 := (vK.n5 hn (va.cl hn)).2
    rw [L320_S]
    unfold b_320_46 b_320_102
    rw [xg_97_49, wa_138 ha, ca, if_pos (nI_le (by omega) (by omega)), if_pos (b2_nar _)]
    show _ = some (some (Value.int (b2 (g && true))), mjW0 s)
    rw [Bool.and_true]
  | r + 1, i, n + 1, g, e, hr, hg => by
    have n5 := (vK.n5 hn (va.cl hn)).2
    rw [L320_S]
    unfold b_320_46 b_320_102 b_320_95
    rw [xg_97_49, wa_138 ha, ca, if_neg (nI_ge (by omega) (by omega))]
    cases g with
    | false =>
      rw [if_pos (show b2 false = 0 from rfl), if_pos (b2_nar _)]
      rfl
    | true =>
      have ec := hg rfl
      have hi : i < nmL L (cK kb) := by rw [← ec]; omega
      have ao := va.ow hn i (by omega)
      have bo := vb.ow hn i (by omega)
      have vo := hv.ow hn
      have ro : (if oK kb i < 5 then oK v (oK kb i) else oK kb i) ≤ 6 := by
        by_cases g5 : oK kb i < 5
        · rw [if_pos g5]; exact vo _ g5
        · rw [if_neg g5]; exact bo
      rw [if_neg (show ¬ b2 true = 0 by decide), xg_97_53, i5m, wa_142 (by omega), Ka.2 i (by omega), xg_97_53, i5m, wa_142 (by omega), Kb.2 i hi, xV_97, x_318 hv hn U bo (hnm kb rfl i hi), bI_s, nI_1, Bool.true_and]
      show _ = some (some (Value.int (b2 (decide (oK ka i = if oK kb i < 5 then oK v (oK kb i) else oK kb i) && allR _ (i + 1) r))), mjW0 s)
      by_cases q : oK ka i = if oK kb i < 5 then oK v (oK kb i) else oK kb i
      · rw [if_pos ((oR_inj ao ro).mpr q), decide_eq_true q, Bool.true_and]
        have := lq_320 hn hv U va vb ha hb' ca Ka Kb hnm r (i + 1) n true (by omega) (by omega) (fun _ => ec)
        rw [Bool.true_and] at this
        exact this
      · rw [if_neg (fun x => q ((oR_inj ao ro).mp x)), decide_eq_false q, Bool.false_and]
        have := lq_320 hn hv U va vb ha hb' ca Ka Kb hnm r (i + 1) n false (by omega) (by omega) (fun e => by cases e)
        rw [Bool.false_and] at this
        exact this
/-- isLikeType: TYPE ta is tb seen with the OWNERS v -/
theorem x_320 {ta tb : Nat} (hb : b ≤ 1) (h16 : L.length ≤ 16) (hn : HN T N L) (hv : vK L v) (U : UPv L b s v) (Ka : TKr L b s ti ta) (Kb : TKr L b s to tb) (hnm : tyN L (cK v) tb) : mjF (d + 2) 320 [.ref 97, .int ti, .int to] (mjW0 s) = some (some (.int (b2 (decide (ta = sty (nmL L) tb v)))), mjW0 s) := by
  rw [e_320]
  unfold f_320 b_320_0 b_320_8 b_320_20 b_320_42
  match ta, tb, Ka, Kb, hnm with
  | 0, 0, Ka, Kb, hnm =>
    have e1 : ti = -1 := Ka
    have e2 : to = -1 := Kb
    rw [e1, e2]
    rfl
  | 0, kb + 2, Ka, ⟨vb, ib, b1, b2, b3, b4⟩, hnm =>
    have e1 : ti = -1 := Ka
    rw [e1, b2, if_pos (by decide), if_neg (by decide), if_pos (nI_pos' (by omega))]
    rw [decide_eq_false (show ¬ 0 = sty (nmL L) (kb + 2) v from fun e => by
      have e' : 0 = stand (nmL L) kb v + 2 := e
      omega)]
    rfl
  | ka + 2, 0, ⟨va, ia, a1, a2, a3, a4⟩, Kb, hnm =>
    have e2 : to = -1 := Kb
    rw [e2, a2, if_neg (nI_pos (by omega)), if_neg (by decide), if_pos (nI_pos' (by omega))]
    rw [decide_eq_false (show ¬ ka + 2 = sty (nmL L) 0 v from fun e => by
      have e' : ka + 2 = 0 := e
      omega)]
    rfl
  | ka + 2, kb + 2, ⟨va, ia, a1, a2, a3, a4⟩, ⟨vb, ib, b1, b2', b3, b4⟩, hnm =>
    have cal := va.cl hn
    have cbl := vb.cl hn
    have n5 := (vK.n5 hn cal).2
    have nb5 := (vK.n5 hn cbl).2
    rw [a2, b2', if_neg (nI_pos (by omega)), if_pos (nI_pos' (by omega)), xg_97_50, wa_139 a1, a4.1, xg_97_50, wa_139 b1, b4.1]
    have eqv : (ka + 2 = sty (nmL L) (kb + 2) v) ↔ cK ka = cK kb ∧ ∀ i, i < nmL L (cK ka) → oK ka i = if oK kb i < 5 then oK v (oK kb i) else oK kb i := by
      have e1 : (ka + 2 = sty (nmL L) (kb + 2) v) ↔ ka = stand (nmL L) kb v := by
        show ka + 2 = stand (nmL L) kb v + 2 ↔ _
        omega
      rw [e1]
      constructor
      · intro e
        have c1 : cK ka = cK kb := by rw [e]; exact stand_c hn vb
        refine ⟨c1, fun i hi => ?_⟩
        rw [c1] at hi
        rw [e]
        exact stand_o hn vb hi
      · intro ⟨c1, h⟩
        rw [va.eq hn, c1]
        unfold stand
        refine mkK_cg (fun i hi => ?_)
        rw [← c1] at hi
        exact h i hi
    by_cases q : cK ka = cK kb
    · rw [if_pos (by rw [q]), show (1 : Int32) = b2 true from rfl, show (0 : Int32) = nI 0 from rfl, lq_320 (d := d) hn hv U va vb a1 b1 a3 a4 b4 hnm (nmL L (cK ka)) 0 mjN true (by omega) (by have := mjN_v; omega) (fun _ => q), Bool.true_and]
      have : allR (fun i => decide (oK ka i = if oK kb i < 5 then oK v (oK kb i) else oK kb i)) 0 (nmL L (cK ka)) = decide (ka + 2 = sty (nmL L) (kb + 2) v) := by
        rw [Bool.eq_iff_iff, allR_iff, decide_eq_true_iff, eqv]
        exact ⟨fun x => ⟨q, fun i hi => of_decide_eq_true (x i (Nat.zero_le _) (by omega))⟩, fun x i _ hi => decide_eq_true (x.2 i (by omega))⟩
      rw [this]
    · rw [if_neg (fun x => q (by have := (nI_eq (by omega) (by omega)).mp x; omega)), show (0 : Int32) = nI 0 from rfl]
      have := lq_320 (d := d) hn hv U va vb a1 b1 a3 a4 b4 hnm (nmL L (cK ka)) 0 mjN false (by omega) (by have := mjN_v; omega) (fun e => by cases e)
      rw [Bool.false_and] at this
      rw [show L_320_46 (mjF (d + 1)) mjN 97 (nI ia) (nI ib) (nI 0) (nI 0) (mjW0 s) = _ from this, decide_eq_false (fun x => q (eqv.mp x).1)]
theorem L319_S (R : mjR) (n a : Nat) (b e f g : Int32) (hp : mjH) : L_319_43 R (n + 1) a b e f g hp = b_319_43 R (L_319_43 R n) a b e f g hp := rfl
theorem py_N (hn : HN T N L) (hm : hmM L m < L.length) {i : Nat} : tyN L (hmM L m) (pyT T L m i) := by
  unfold pyT
  cases h : (psM L m)[i]? with
  | none => intro kk h; exact absurd (show 0 = kk + 2 from h) (by omega)
  | some p => exact tyT_N hn hm
theorem lq_319 (J : RJ T N b ks L s) (hv : vK L v) (U : UPv L b s v) (hm : m < nMem L) (ho : o < nMem L) (Km : TMr T L b s m) (Ko : TMr T L b s o) (hvo : cK v = hmM L o) : ∀ (r i n : Nat) (g : Bool), i + r = (psM L m).length → r < n → (g = true → (psM L m).length = (psM L o).length) → L_319_43 (mjF (d + 2)) n 97 (nI (400 * b + m)) (nI (400 * b + o)) (b2 g) (nI i) (mjW0 s) = some (some (.int (b2 (g && allR (fun i => decide (pyT T L m i = sty (nmL L) (pyT T L o i) v)) i r))), mjW0 s)
  | r, i, 0, g, e, hr, hg => by omega
  | 0, i, n + 1, g, e, hr, hg => by
    have hb := J.b1
    have m384 := J.n384
    have p6 := J.p6 hm
    rw [L319_S]
    unfold b_319_43 b_319_93
    rw [xg_97_39, wa_128 (by omega), p6.1, if_pos (nI_le (by omega) (by omega)), if_pos (b2_nar _)]
    show _ = some (some (Value.int (b2 (g && true))), mjW0 s)
    rw [Bool.and_true]
  | r + 1, i, n + 1, g, e, hr, hg => by
    have hb := J.b1
    have h16 := J.len
    have hn := J.2.2.2.2.2.1
    have m384 := J.n384
    have p6 := J.p6 hm
    rw [L319_S]
    unfold b_319_43 b_319_93
    rw [xg_97_39, wa_128 (by omega), p6.1, if_neg (nI_ge (by omega) (by omega))]
    cases g with
    | false =>
      rw [if_pos (show b2 false = 0 from rfl), if_pos (b2_nar _)]
      rfl
    | true =>
      have el := hg rfl
      have hol := (J.mem ho).2
      rw [if_neg (show ¬ b2 true = 0 by decide), xg_97_44, i6m, wa_133 (by omega), xg_97_44, i6m, wa_133 (by omega), xV_97, x_320 (d := d) hb h16 hn hv U (Km.2 i (by omega)) (Ko.2 i (by omega)) (by rw [hvo]; exact py_N hn hol), bI_s, nI_1, Bool.true_and]
      exact lq_319 J hv U hm ho Km Ko hvo r (i + 1) n _ (by omega) (by omega) (fun _ => el)
theorem samV_iff : samV T L m o v ↔ tyM T L m = sty (nmL L) (tyM T L o) v ∧ (psM L m).length = (psM L o).length ∧ ∀ i, i < (psM L m).length → pyT T L m i = sty (nmL L) (pyT T L o i) v := Iff.rfl
/-- isLike -/
theorem x_319 (J : RJ T N b ks L s) (hv : vK L v) (U : UPv L b s v) (hm : m < nMem L) (ho : o < nMem L) (Km : TMr T L b s m) (Ko : TMr T L b s o) (hvo : cK v = hmM L o) : ∃ r : Bool, mjF (d + 3) 319 [.ref 97, .int (nI (400 * b + m)), .int (nI (400 * b + o))] (mjW0 s) = some (some (.int (b2 r)), mjW0 s) ∧ (r = true ↔ samV T L m o v) := by
  have hb := J.b1
  have h16 := J.len
  have hn := J.2.2.2.2.2.1
  have m384 := J.n384
  have pm := J.p6 hm
  have po := J.p6 ho
  have hol := (J.mem ho).2
  have run : ∀ g : Bool, (g = true → (psM L m).length = (psM L o).length) → L_319_43 (mjF (d + 2)) mjN 97 (nI (400 * b + m)) (nI (400 * b + o)) (b2 g) (nI 0) (mjW0 s) = _ := fun g hg => lq_319 (d := d) J hv U hm ho Km Ko hvo (psM L m).length 0 mjN g (by omega) (by have := mjN_v; omega) hg
  by_cases q : (psM L m).length = (psM L o).length
  · refine ⟨decide (tyM T L m = sty (nmL L) (tyM T L o) v) && allR (fun i => decide (pyT T L m i = sty (nmL L) (pyT T L o i) v)) 0 (psM L m).length, ?_, ?_⟩
    · rw [e_319]
      unfold f_319 b_319_0 b_319_38 b_319_39
      rw [xg_97_39, wa_128 (by omega), pm.1, xg_97_39, wa_128 (by omega), po.1, if_pos (by rw [q]), xg_97_37, wa_126 (by omega), xg_97_37, wa_126 (by omega), xV_97, x_320 (d := d) hb h16 hn hv U Km.1 Ko.1 (by rw [hvo]; exact tyT_N hn hol), bI_s, ← run _ (fun _ => q)]
      cases decide (tyM T L m = sty (nmL L) (tyM T L o) v) with
      | false => rw [if_pos (show b2 false = 0 from rfl)]; rfl
      | true => rw [if_neg (show ¬ b2 true = 0 by decide)]; rfl
    · rw [Bool.and_eq_true, decide_eq_true_iff, allR_iff]
      exact ⟨fun x => ⟨x.1, q, fun i hi => of_decide_eq_true (x.2 i (Nat.zero_le _) (by omega))⟩, fun x => ⟨x.1, fun i _ hi => decide_eq_true (x.2.2 i (by omega))⟩⟩
  · refine ⟨false, ?_, ⟨fun x => (by cases x), fun x => absurd x.2.1 q⟩⟩
    have e := run false (fun e => by cases e)
    rw [Bool.false_and] at e
    rw [e_319]
    unfold f_319 b_319_0 b_319_38 b_319_39
    rw [xg_97_39, wa_128 (by omega), pm.1, xg_97_39, wa_128 (by omega), po.1, if_neg (fun x => q ((nI_eq (by omega) (by omega)).mp x))]
    exact e
end MJA81
end
section
/-! ===== the reference's judge: judgeOver ===== -/
/-- (e) as the reference asks it: the nearest above alone -/
def OKe2 (T : TT) (L : List CD) (m : Nat) : Prop := ∀ o, nearM T L m = some o → mSM L m = true ∧ mSM L o = true ∧ samM T L m o
def oOv : mjSt3 → mjSt3 → Prop := offG (fun h j => (h = 97 ∧ (j = 61 ∨ j = 62 ∨ j = 95)) ∨ h = 165 ∨ h = 166) (fun _ _ => False)
section MJA82
variable {T : TT} {d N b k t c n m v u a o : Nat} {ks : List Nat} {L : List CD} {s s' : mjSt3} {ti : Int32} {key : Int64}
theorem oUp.Ov (h : oUp s s') : oOv s s' := offG.mono h (fun _ _ x => x.elim (fun x => Or.inl ⟨x.1, by omega⟩) Or.inr) (fun _ _ x => x)
theorem o61.Ov (h : o61 s s') : oOv s s' := offG.mono h (fun _ _ x => Or.inl ⟨x.1, by omega⟩) (fun _ _ x => x)
theorem oOv.r (o : oOv s s') {h : Nat} (h1 : ¬ h = 97) (h2 : ¬ h = 165) (h3 : ¬ h = 166) : s'.1 h = s.1 h := funext fun j => o.1 h j (by omega)
theorem oOv.f (o : oOv s s') {j : Nat} (h1 : ¬ (j = 61 ∨ j = 62 ∨ j = 95)) : s'.1 97 j = s.1 97 j := o.1 97 j (by omega)
theorem oOv.l (o : oOv s s') : s'.2 = s.2 := Prod.ext (funext fun x => funext fun j => o.2.1 x j (fun e => e)) o.2.2
theorem oOv.J (o : oOv s s') (J : RJ T N b ks L s) : RJ T N b ks L s' := J.off (o.f (by omega)) (fun x hx => o.r (by omega) (by omega) (by omega)) (by rw [o.l])
theorem oOv.A (o : oOv s s') (A : ABr T L b s c) : ABr T L b s' c := A.cg (o.r (by decide) (by decide) (by decide)) (o.r (by decide) (by decide) (by decide)) (o.r (by decide) (by decide) (by decide)) (o.r (by decide) (by decide) (by decide))
theorem TKr.cg {ty : Nat} (K : TKr L b s ti ty) (h1 : s'.1 138 = s.1 138) (h2 : s'.1 139 = s.1 139) (h3 : s'.1 142 = s.1 142) : TKr L b s' ti ty := by
  match ty, K with
  | 0, K => exact K
  | kk + 2, ⟨v, k, k1, k2, k3, k4⟩ => exact ⟨v, k, k1, k2, by rw [h1]; exact k3, by rw [h2]; exact k4.1, fun i hi => by rw [h3]; exact k4.2 i hi⟩
theorem oOv.M (o : oOv s s') (K : TMr T L b s m) : TMr T L b s' m := ⟨by rw [o.r (by decide) (by decide) (by decide)]; exact K.1.cg (o.r (by decide) (by decide) (by decide)) (o.r (by decide) (by decide) (by decide)) (o.r (by decide) (by decide) (by decide)), fun i hi => by rw [o.r (by decide) (by decide) (by decide)]; exact (K.2 i hi).cg (o.r (by decide) (by decide) (by decide)) (o.r (by decide) (by decide) (by decide)) (o.r (by decide) (by decide) (by decide))⟩
theorem oOv.Q (o : oOv s s') (V : QV T L b m s) : QV T L b m s' := ⟨fun x hx => o.M (V.1 x hx), fun x hx => o.A (V.2 x hx)⟩
theorem chV_v (hn : HN T N L) : ∀ (j v x : Nat), vK L v → chV T L v j = some x → vK L x ∧ upI (upT T L) j (cK v) = some (cK x)
  | 0, v, x, hv, h => by cases h; exact ⟨hv, rfl⟩
  | j + 1, v, x, hv, h => by
    rw [chV_S] at h
    cases ha : abT T L (cK v) with
    | none => rw [ha] at h; cases h
    | some u =>
      rw [ha] at h
      have hu := ab_v hn (hv.cl hn) ha
      obtain ⟨a1, a2⟩ := chV_v hn j (stand (nmL L) u v) x (vK.stand hn hu hv) h
      refine ⟨a1, ?_⟩
      rw [stand_c hn hu] at a2
      show (match upT T L (cK v) with
        | none => none
        | some y => upI (upT T L) j y) = some (cK x)
      rw [show upT T L (cK v) = some (cK u) by unfold upT; rw [ha]; rfl]
      exact a2
theorem chV_own : ∀ j, chV T L (own (nmL L) c) j = chn (nmL L) (abT T L) c j
  | 0 => rfl
  | j + 1 => by
    show (match chV T L (own (nmL L) c) j with
      | none => none
      | some w => match abT T L (cK w) with
        | none => none
        | some u => some (stand (nmL L) u w)) = (match chn (nmL L) (abT T L) c j with
      | none => none
      | some v => match abT T L (cK v) with
        | none => none
        | some u => some (stand (nmL L) u v))
    rw [chV_own j]
theorem vw_chn (A : ACY T N L) (hc : c < L.length) (h : chn (nmL L) (abT T L) c k = some v) (hk : k < 16) : vwT (nmL L) (abT T L) c (cK v) = some v := by
  obtain ⟨w, hw⟩ := vw_of h hk
  obtain ⟨j, j1, j2, j3⟩ := vwk_at hw
  show vwk (nmL L) (abT T L) c (cK v) 16 = some v
  rw [hw]
  by_cases e : j = k
  · subst e
    rw [j2] at h
    exact h
  · by_cases g : j < k
    · exact absurd j3 (chn_ne A hc j2 h g (by omega))
    · exact absurd j3.symm (chn_ne A hc h j2 (by omega) (by omega))
theorem anc_find {up : Nat → Option Nat} {g : Nat → Option Nat} : ∀ (j f x a : Nat), (∀ i, i < j → ∀ y, upI up i x = some y → g y = none) → upI up j x = some a → j < f → (¬ g a = none ∨ up a = none) → (anc up f (some x)).findSome? g = g a
  | j, 0, x, a, _, _, hf, _ => by omega
  | 0, f + 1, x, a, h1, h2, hf, h3 => by
    cases h2
    show (x :: anc up f (up x)).findSome? g = g x
    rw [List.findSome?_cons]
    cases hg : g x with
    | some o => rfl
    | none =>
      have e := h3.resolve_left (fun q => q hg)
      rw [e]
      cases f <;> rfl
  | j + 1, f + 1, x, a, h1, h2, hf, h3 => by
    show (x :: anc up f (up x)).findSome? g = g a
    rw [List.findSome?_cons, h1 0 (by omega) x rfl]
    cases hu : up x with
    | none =>
      have h2' : (match up x with
        | none => none
        | some y => upI up j y) = some a := h2
      rw [hu] at h2'
      cases h2'
    | some y =>
      have h2' : (match up x with
        | none => none
        | some y => upI up j y) = some a := h2
      rw [hu] at h2'
      refine anc_find j f y a (fun i hi z hz => h1 (i + 1) (by omega) z ?_) h2' (by omega) h3
      show (match up x with
        | none => none
        | some y => upI up i y) = some z
      rw [hu]
      exact hz
theorem fmR_2 : fmR T L 2 key a = omT T L a key := by
  unfold fmR omT
  rw [show (fun i => decide (nkM T L (fmL L a + i) = key) && (decide ((2 : Int32) = 2) || decide (b2 (mSM L (fmL L a + i)) = 2))) = (fun i => decide (nkM T L (fmL L a + i) = key)) from funext fun i => by simp]
  rfl
theorem om_lt (h : omT T L a key = some o) : fmL L a ≤ o ∧ o < fmL L a + mcL L a ∧ nkM T L o = key := by
  unfold omT at h
  cases hf : fnd (fun i => decide (nkM T L (fmL L a + i) = key)) (mcL L a) with
  | none => rw [hf] at h; cases h
  | some i =>
    rw [hf] at h
    obtain ⟨f1, f2, _⟩ := fnd_some.mp hf
    have e : fmL L a + i = o := by simpa using h
    have := of_decide_eq_true f2
    rw [e] at this
    exact ⟨by omega, by omega, this⟩
theorem L314_S (R : mjR) (n a : Nat) (b e : Int32) (hp : mjH) : L_314_16 R (n + 1) a b e hp = b_314_16 R (L_314_16 R n) a b e hp := rfl
/-- what findMember found above is the nearest; and as what -/
theorem near_of (Ac : ACY T N L) (hc : hmM L m < L.length) (hu : abT T L (hmM L m) = some u) {v' j : Nat} (h1 : chV T L (stand (nmL L) u (own (nmL L) (hmM L m))) j = some v') (h2 : ∀ i, i < j → ∀ x, chV T L (stand (nmL L) u (own (nmL L) (hmM L m))) i = some x → fmR T L 2 (nkM T L m) (cK x) = none) (h3 : fmR T L 2 (nkM T L m) (cK v') = none → abT T L (cK v') = none) : nearM T L m = fmR T L 2 (nkM T L m) (cK v') ∧ vwT (nmL L) (abT T L) (hmM L m) (cK v') = some v' := by
  have hn := Ac.1
  have vu := ab_v hn hc hu
  have vo := vK.own hn hc
  have oc := own_c hn hc
  have vs := vK.stand hn vu vo
  have sc : cK (stand (nmL L) u (own (nmL L) (hmM L m))) = cK u := stand_c hn vu
  have up1 : upT T L (hmM L m) = some (cK u) := by unfold upT; rw [hu]; rfl
  obtain ⟨w1, w2⟩ := chV_v hn j _ v' vs h1
  rw [sc] at w2
  have ul := up_lt hn hc up1
  have j16 := up_end Ac ul w2
  have e1 : chn (nmL L) (abT T L) (hmM L m) (j + 1) = some v' := by
    rw [← chV_own, chV_S, oc, hu]
    exact h1
  have j15 : j + 1 < 16 := by
    have := chn_c hn hc (j + 1) v' e1
    exact up_end Ac hc this
  refine ⟨?_, vw_chn Ac hc e1 j15⟩
  unfold nearM ancM
  rw [up1, fmR_2]
  refine anc_find j 16 (cK u) (cK v') (fun i hi y hy => ?_) w2 j16 ?_
  · -- the CLASS i above
    have : ∃ x, chV T L (stand (nmL L) u (own (nmL L) (hmM L m))) i = some x := by
      have key : ∀ i v, vK L v → ∀ y, upI (upT T L) i (cK v) = some y → ∃ x, chV T L v i = some x := by
        intro i
        induction i with
        | zero => intro v _ y _; exact ⟨v, rfl⟩
        | succ i ih =>
          intro v hv y hy
          have hy' : (match upT T L (cK v) with
            | none => none
            | some z => upI (upT T L) i z) = some y := hy
          rw [chV_S]
          cases ha : abT T L (cK v) with
          | none =>
            rw [show upT T L (cK v) = none by unfold upT; rw [ha]; rfl] at hy'
            cases hy'
          | some w =>
            rw [show upT T L (cK v) = some (cK w) by unfold upT; rw [ha]; rfl] at hy'
            have vw := ab_v hn (hv.cl hn) ha
            exact ih _ (vK.stand hn vw hv) y (by rw [stand_c hn vw]; exact hy')
      exact key i _ vs y (by rw [sc]; exact hy)
    obtain ⟨x, hx⟩ := this
    obtain ⟨_, x2⟩ := chV_v hn i _ x vs hx
    rw [sc, hy] at x2
    have ex : y = cK x := by simpa using x2
    have := h2 i hi x hx
    rw [fmR_2] at this
    rw [ex]
    exact this
  · rw [← fmR_2]
    cases hf : fmR T L 2 (nkM T L m) (cK v') with
    | some o => exact Or.inl (fun e => by cases e)
    | none =>
      refine Or.inr ?_
      unfold upT
      rw [h3 hf]
      rfl
theorem lq_314 (Ac : ACY T N L) (hc : c < L.length) : ∀ (r i n : Nat) (s : mjSt3), i + r = mcL L c → r < n → RJ T N b ks L s → QV T L b (nMem L) s → GR s → ∃ s', L_314_16 (mjF (d + 4)) n 97 (nI (16 * b + c)) (nI (400 * b + (fmL L c + i))) (mjW0 s) = some (none, mjW0 s') ∧ oOv s s' ∧ GR s' ∧ (gR0 s' ↔ gR0 s ∧ ∀ x, i ≤ x → x < mcL L c → OKe2 T L (fmL L c + x))
  | r, i, 0, s, e, hr, J, V, g => by omega
  | 0, i, n + 1, s, e, hr, J, V, g => by
    have hb := J.b1
    have h16 := J.len
    have m384 := J.n384
    obtain ⟨c1, c2, c3, c4⟩ := J.mc hc
    refine ⟨s, ?_, offG.rf, g, ⟨fun x => ⟨x, fun y h1 h2 => by omega⟩, fun x => x.1⟩⟩
    rw [L314_S]
    unfold b_314_16
    rw [xg_97_18, wa_107 (by omega), c2, xg_97_63, J.1.2, xg_97_19, wa_108 (by omega), c1, i4m, nI_ad, if_pos (nI_le (by omega) (by omega))]
  | r + 1, i, n + 1, s, e, hr, J, V, g => by
    have hn := Ac.1
    have hb := J.b1
    have h16 := J.len
    have m384 := J.n384
    obtain ⟨c1, c2, c3, c4⟩ := J.mc hc
    obtain ⟨m, em⟩ : ∃ m, m = fmL L c + i := ⟨_, rfl⟩
    have hm : m < nMem L := by omega
    have hma : hmM L m = c := by rw [em]; exact hm_at hc (by omega)
    rw [← em]
    by_cases g0 : s.1 97 61 = 0
    · obtain ⟨s1, a1, a2, a3⟩ := x_315 (d := d + 3) (b := b) (s := s) hn hc
      have J1 := oUp.J a2 J
      have V1 := a2.Ov.Q V
      have g1 : s1.1 97 61 = 0 := by rw [a2.f (by decide)]; exact g0
      have oc := own_c hn hc
      obtain ⟨fa, fb⟩ := x_316a (d := d + 1) (key := nkM T L m) (w := 2) Ac J1 V1.2 (vK.own hn hc) a3
      rw [oc] at fa fb
      obtain ⟨U, hU⟩ : ∃ U, U = L_314_16 (mjF (d + 4)) (n + 1) 97 (nI (16 * b + c)) (nI (400 * b + m)) (mjW0 s) := ⟨_, rfl⟩
      rw [← hU]
      have pre := hU
      rw [L314_S] at pre
      unfold b_314_16 at pre
      rw [xg_97_18, wa_107 (by omega), c2, xg_97_63, J.1.2, xg_97_19, wa_108 (by omega), c1, i4m, nI_ad, if_neg (nI_ge (by omega) (by omega)), xg_97_61, if_pos g0, xV_97, a1, bN_s, xg_97_43, wa_132 (by omega), J1.mn hm, xV_97] at pre
      -- on to the next MEMBER
      have nxt : ∀ z, oOv s z → GR z → (gR0 z ↔ OKe2 T L m) → U = b_314_128 (mjF (d + 4)) (L_314_16 (mjF (d + 4)) n) 97 (nI (16 * b + c)) (nI (400 * b + m)) (mjW0 z) → ∃ s', U = some (none, mjW0 s') ∧ oOv s s' ∧ GR s' ∧ (gR0 s' ↔ gR0 s ∧ ∀ x, i ≤ x → x < mcL L c → OKe2 T L (fmL L c + x)) := by
        intro z oz gz iz pz
        obtain ⟨s', b1, b2', b3, b4⟩ := lq_314 Ac hc r (i + 1) n z (by omega) (by omega) (oz.J J) (oz.Q V) gz
        refine ⟨s', ?_, oz.tr b2', b3, ?_⟩
        · rw [pz]
          unfold b_314_128
          rw [nI_1, em, show 400 * b + (fmL L c + i) + 1 = 400 * b + (fmL L c + (i + 1)) by omega]
          exact b1
        · rw [b4, iz]
          constructor
          · intro ⟨x1, x2⟩
            refine ⟨g0, fun x h1 h2 => ?_⟩
            by_cases e' : x = i
            · rw [e', ← em]; exact x1
            · exact x2 x (by omega) h2
          · intro ⟨_, x2⟩
            refine ⟨?_, fun x h1 h2 => x2 x (by omega) h2⟩
            have := x2 i (Nat.le_refl _) (by omega)
            rw [← em] at this
            exact this
      cases hab : abT T L c with
      | none =>
        have nn : nearM T L m = none := by
          unfold nearM ancM
          rw [hma, show upT T L c = none by unfold upT; rw [hab]; rfl]
          rfl
        rw [fa hab, bI_s, if_pos rfl] at pre
        exact nxt s1 a2.Ov (Or.inl g1) ⟨fun _ o ho => (by rw [nn] at ho; cases ho), fun _ => g1⟩ pre
      | some u =>
        obtain ⟨s2, v', j, b1, b2', b3, b4, b5, b6, b7⟩ := fb u hab
        rw [← hma] at hab b5 b6
        obtain ⟨nr, vw⟩ := near_of Ac (by rw [hma]; exact hc) hab b5 b6 b7
        have o2 : oOv s s2 := a2.Ov.tr b2'.Ov
        have J2 := o2.J J
        have V2 := o2.Q V
        have g2 : s2.1 97 61 = 0 := by rw [b2'.f (by decide)]; exact g1
        rw [b1, bI_s] at pre
        cases hf : fmR T L 2 (nkM T L m) (cK v') with
        | none =>
          rw [hf, if_pos (show mR b none = -1 from rfl)] at pre
          exact nxt s2 o2 (Or.inl g2) ⟨fun _ o ho => (by rw [nr, hf] at ho; cases ho), fun _ => g2⟩ pre
        | some o =>
          have vl := b4.cl hn
          have ol := fmR_lt hf
          obtain ⟨_, _, d3, d4⟩ := J.mc vl
          have ho : o < nMem L := by omega
          have hmo : hmM L o = cK v' := by
            have := hm_at (L := L) vl (show o - fmL L (cK v') < mcL L (cK v') by omega)
            rw [show fmL L (cK v') + (o - fmL L (cK v')) = o by omega] at this
            exact this
          rw [hf] at nr
          rw [hf, if_neg (show ¬ mR b (some o) = -1 from nI_m1 (by omega)), xg_97_36, wa_125 (by omega), J2.sort hm, xg_97_36, show mR b (some o) = nI (400 * b + o) from rfl, wa_125 (by omega), J2.sort ho, xV_97] at pre
          have i2 : OKe2 T L m ↔ mSM L m = true ∧ mSM L o = true ∧ samV T L m o v' := by
            constructor
            · intro h
              obtain ⟨x1, x2, x3⟩ := h o nr
              exact ⟨x1, x2, x3 v' (by rw [hmo]; exact vw)⟩
            · intro ⟨x1, x2, x3⟩ o' ho'
              rw [nr] at ho'
              cases ho'
              refine ⟨x1, x2, fun w hw => ?_⟩
              rw [hmo, vw] at hw
              cases hw
              exact x3
          have bad : ∀ k : Int32, ¬ k ≤ 0 → ¬ OKe2 T L m → U = bN (mjF (d + 4) 268 [.ref 97, .int k, .int (s2.1 127 (400 * b + m))] (mjW0 s2)) (fun hp3 => b_314_128 (mjF (d + 4)) (L_314_16 (mjF (d + 4)) n) 97 (nI (16 * b + c)) (nI (400 * b + m)) hp3) → ∃ s', U = some (none, mjW0 s') ∧ oOv s s' ∧ GR s' ∧ (gR0 s' ↔ gR0 s ∧ ∀ x, i ≤ x → x < mcL L c → OKe2 T L (fmL L c + x)) := by
            intro k hk nk pk
            obtain ⟨z, e1, e2, e3⟩ := x_268 (d := d + 3) (s := s2) (Or.inl g2) hk (s2.1 127 (400 * b + m))
            rw [e1, bN_s] at pk
            exact nxt z (o2.tr e2.Ov) (Or.inr e3) ⟨fun x => absurd x e3.ng, fun x => absurd x nk⟩ pk
          have e93 : b_314_93 (mjF (d + 4)) (L_314_16 (mjF (d + 4)) n) 97 (nI (16 * b + c)) (nI (400 * b + m)) (mjW0 s2) = bN (mjF (d + 4) 268 [.ref 97, .int 4, .int (s2.1 127 (400 * b + m))] (mjW0 s2)) (fun hp3 => b_314_128 (mjF (d + 4)) (L_314_16 (mjF (d + 4)) n) 97 (nI (16 * b + c)) (nI (400 * b + m)) hp3) := by
            unfold b_314_93
            rw [xg_97_38, wa_127 (by omega), xV_97]
          rw [e93] at pre
          cases q1 : mSM L m with
          | false =>
            rw [q1, if_pos (show b2 false = 0 from rfl)] at pre
            exact bad 4 (by decide) (fun h => by have := (i2.mp h).1; rw [q1] at this; cases this) pre
          | true =>
            rw [q1, if_neg (show ¬ b2 true = 0 by decide)] at pre
            cases q2 : mSM L o with
            | false =>
              rw [q2, if_pos (show b2 false = 0 from rfl)] at pre
              exact bad 4 (by decide) (fun h => by have := (i2.mp h).2.1; rw [q2] at this; cases this) pre
            | true =>
              rw [q2, if_neg (show ¬ b2 true = 0 by decide)] at pre
              obtain ⟨rb, f1, f2⟩ := x_319 (d := d + 1) J2 b4 b3 hm ho (V2.1 m hm) (V2.1 o ho) hmo.symm
              rw [f1, bI_s] at pre
              cases rb with
              | true =>
                rw [if_neg (show ¬ b2 true = 0 by decide)] at pre
                exact nxt s2 o2 (Or.inl g2) ⟨fun _ => i2.mpr ⟨q1, q2, f2.mp rfl⟩, fun _ => g2⟩ pre
              | false =>
                rw [if_pos (show b2 false = 0 from rfl), xg_97_38, wa_127 (by omega), xV_97] at pre
                exact bad 9 (by decide) (fun h => by have := f2.mpr (i2.mp h).2.2; cases this) pre
    · refine ⟨s, ?_, offG.rf, g, ⟨fun x => absurd x g0, fun x => absurd x.1 g0⟩⟩
      rw [L314_S]
      unfold b_314_16
      rw [xg_97_18, wa_107 (by omega), c2, xg_97_63, J.1.2, xg_97_19, wa_108 (by omega), c1, i4m, nI_ad, if_neg (nI_ge (by omega) (by omega)), xg_97_61, if_neg g0]
/-- judgeOver -/
theorem x_314 (Ac : ACY T N L) (hc : c < L.length) (J : RJ T N b ks L s) (V : QV T L b (nMem L) s) (g : GR s) : ∃ s', mjF (d + 5) 314 [.ref 97, .int (nI (16 * b + c))] (mjW0 s) = some (none, mjW0 s') ∧ oOv s s' ∧ GR s' ∧ (gR0 s' ↔ gR0 s ∧ ∀ x, x < mcL L c → OKe2 T L (fmL L c + x)) := by
  have hb := J.b1
  have h16 := J.len
  obtain ⟨c1, c2, c3, c4⟩ := J.mc hc
  obtain ⟨s', b1, b2', b3, b4⟩ := lq_314 (d := d) Ac hc (mcL L c) 0 mjN s (by omega) (by have := mjN_v; omega) J V g
  refine ⟨s', ?_, b2', b3, b4.trans ⟨fun x => ⟨x.1, fun y hy => x.2 y (Nat.zero_le _) hy⟩, fun x => ⟨x.1, fun y _ hy => x.2 y hy⟩⟩⟩
  rw [e_314]
  unfold f_314 b_314_0
  rw [xg_97_18, wa_107 (by omega), c2, xg_97_63, J.1.2, i4m]
  exact b1
end MJA82
end
section
/-! ===== the reference's judge: (a) to (e) ===== -/
/-- all that judgeAll changes till (e), in bank b -/
def oJG (b : Nat) : mjSt3 → mjSt3 → Prop := offG (fun h j => (h = 97 ∧ (j = 61 ∨ j = 62 ∨ j = 95)) ∨ ((h = 117 ∨ h = 118) ∧ 128 * b ≤ j ∧ j < 128 * b + 128) ∨ (h = 119 ∧ 784 * b ≤ j ∧ j < 784 * b + 784) ∨ (h = 139 ∧ bkP b j) ∨ (h = 142 ∧ bkP b (j / 5)) ∨ h = 165 ∨ h = 166) (fun _ _ => False)
section MJA83
variable {T : TT} {d N b k t c n m v u a o : Nat} {ks : List Nat} {L : List CD} {s s' : mjSt3} {tr : Bool}
theorem o61.G (h : o61 s s') : oJG b s s' := offG.mono h (fun _ _ x => Or.inl ⟨x.1, by omega⟩) (fun _ _ x => x)
theorem oOv.G (h : oOv s s') : oJG b s s' := offG.mono h (fun _ _ x => x.elim Or.inl (fun x => Or.inr (Or.inr (Or.inr (Or.inr (Or.inr x)))))) (fun _ _ x => x)
theorem oTy.G (h : oTy (bkP b) s s') : oJG b s s' := offG.mono h (fun _ _ x => x.elim (fun x => Or.inl ⟨x.1, by omega⟩) (fun x => Or.inr (Or.inr (Or.inr (x.elim Or.inl (fun x => Or.inr (Or.inl x))))))) (fun _ _ x => x)
theorem oIn.G (hc : c < 16) (h : oIn (16 * b + c) s s') : oJG b s s' := offG.mono h (fun _ _ x => x.elim (fun x => Or.inl ⟨x.1, by omega⟩) (fun x => Or.inr (Or.inl ⟨x.1, by omega, by omega⟩))) (fun _ _ x => x)
theorem oW.G (hc : c < 16) (h : oW (16 * b + c) s s') : oJG b s s' := offG.mono h (fun _ _ x => Or.inr (Or.inr (Or.inl ⟨x.1, by omega, by omega⟩))) (fun _ _ x => x)
theorem fm_n : fmL L L.length = nMem L := by unfold fmL; rw [List.take_length]
theorem fm_ex (hm : m < nMem L) : ∃ c i, c < L.length ∧ i < mcL L c ∧ m = fmL L c + i := by
  obtain ⟨c, D, k, h1, h2, h3, h4⟩ := FL_ex hm
  refine ⟨c, k, (List.getElem?_eq_some_iff.mp h1).1, ?_, h3⟩
  unfold mcL
  rw [h1]
  exact (List.getElem?_eq_some_iff.mp h2).1
/-- the reference's (e) is the class's -/
theorem okE_iff (Ac : ACY T N L) (hh : ∀ m, m < nMem L → hmM L m < L.length) (hom : ∀ a, a < L.length → ∀ key o, omT T L a key = some o → o < nMem L ∧ hmM L o = a ∧ nkM T L o = key) : (∀ m, m < nMem L → OKe2 T L m) ↔ ∀ m, m < nMem L → OKe T L m := by
  have hn := Ac.1
  constructor
  · intro H
    have P : ∀ j m, m < nMem L → ∀ a, upI (upT T L) (j + 1) (hmM L m) = some a → ∀ o, omT T L a (nkM T L m) = some o → mSM L m = true ∧ mSM L o = true := by
      intro j
      induction j using Nat.strongRecOn with
      | ind j ih =>
        intro m hm a ha o ho
        have hc := hh m hm
        obtain ⟨x, hx⟩ : ∃ x, upT T L (hmM L m) = some x := by
          cases hu : upT T L (hmM L m) with
          | some x => exact ⟨x, rfl⟩
          | none =>
            have : (match upT T L (hmM L m) with
              | none => none
              | some y => upI (upT T L) j y) = some a := ha
            rw [hu] at this
            cases this
        have st : ∀ i, upI (upT T L) (i + 1) (hmM L m) = upI (upT T L) i x := by
          intro i
          show (match upT T L (hmM L m) with
            | none => none
            | some y => upI (upT T L) i y) = _
          rw [hx]
        obtain ⟨f, hf⟩ : ∃ f : Nat → Bool, ∀ i, f i = (match upI (upT T L) i x with
          | some a => (omT T L a (nkM T L m)).isSome
          | none => false) := ⟨_, fun _ => rfl⟩
        have fj : f j = true := by
          rw [hf, ← st j, ha]
          show (omT T L a (nkM T L m)).isSome = true
          rw [ho]
          rfl
        cases hq : fnd f (j + 1) with
        | none =>
          have := fnd_none.mp hq j (by omega)
          rw [fj] at this
          cases this
        | some i0 =>
          obtain ⟨q1, q2, q3⟩ := fnd_some.mp hq
          obtain ⟨a1, ha1⟩ : ∃ a1, upI (upT T L) i0 x = some a1 := by
            rw [hf] at q2
            cases hu : upI (upT T L) i0 x with
            | some y => exact ⟨y, rfl⟩
            | none => rw [hu] at q2; cases q2
          obtain ⟨o1, ho1⟩ : ∃ o1, omT T L a1 (nkM T L m) = some o1 := by
            rw [hf, ha1] at q2
            cases hu : omT T L a1 (nkM T L m) with
            | some y => exact ⟨y, rfl⟩
            | none =>
              have q2' : (omT T L a1 (nkM T L m)).isSome = true := q2
              rw [hu] at q2'
              cases q2'
          have xl := up_lt hn hc hx
          have i16 := up_end Ac xl ha1
          have nr : nearM T L m = some o1 := by
            unfold nearM ancM
            rw [hx, anc_find i0 16 x a1 (fun i hi y hy => by
              have := q3 i hi
              rw [hf, hy] at this
              have this' : (omT T L y (nkM T L m)).isSome = false := this
              cases hu : omT T L y (nkM T L m) with
              | none => rfl
              | some z => rw [hu] at this'; cases this') ha1 i16 (Or.inl (by rw [ho1]; exact fun e => by cases e)), ho1]
          obtain ⟨s1, s2, _⟩ := H m hm o1 nr
          by_cases ej : i0 = j
          · subst ej
            rw [st i0, ha1] at ha
            cases ha
            rw [ho] at ho1
            cases ho1
            exact ⟨s1, s2⟩
          · have al : a1 < L.length := by
              have : upI (upT T L) (i0 + 1) (hmM L m) = some a1 := by rw [st]; exact ha1
              obtain ⟨v, v1, v2⟩ := chn_ex hn hc (i0 + 1) a1 this
              rw [← v2]
              exact (chn_v hn hc (i0 + 1) v v1).cl hn
            obtain ⟨p1, p2, p3⟩ := hom a1 al _ o1 ho1
            have e1 : upI (upT T L) (j - i0 - 1 + 1) (hmM L o1) = some a := by
              rw [p2]
              have : upI (upT T L) j x = upI (upT T L) (i0 + (j - i0)) x := by rw [show i0 + (j - i0) = j by omega]
              rw [st j, this, upI_add, ha1] at ha
              rw [show j - i0 - 1 + 1 = j - i0 by omega]
              exact ha
            obtain ⟨t1, t2⟩ := ih (j - i0 - 1) (by omega) o1 p1 a e1 o (by rw [p3]; exact ho)
            exact ⟨s1, t2⟩
    intro m hm
    refine ⟨fun a ha o ho => ?_, fun o ho => (H m hm o ho).2.2⟩
    unfold ancM at ha
    obtain ⟨x, j, hx, hj, _⟩ := anc_at ha
    refine P j m hm a ?_ o ho
    show (match upT T L (hmM L m) with
      | none => none
      | some y => upI (upT T L) j y) = some a
    rw [hx]
    exact hj
  · intro H m hm o ho
    obtain ⟨h1, h2⟩ := H m hm
    have hmem : ∃ a, a ∈ ancM T L m ∧ omT T L a (nkM T L m) = some o := by
      unfold nearM at ho
      exact List.exists_of_findSome?_eq_some ho
    obtain ⟨a, ha, ha2⟩ := hmem
    exact ⟨(h1 a ha o ha2).1, (h1 a ha o ha2).2, h2 o ho⟩
end MJA83
end
section
/-! ===== the reference's judge: (a) to (e), all of it ===== -/
section MJA84
variable {T : TT} {d N b k t c n m v u a o : Nat} {ks : List Nat} {L : List CD} {s s' : mjSt3} {tr : Bool}
def StJ (T : TT) (N b : Nat) (ks : List Nat) (L : List CD) (tr : Bool) (s : mjSt3) : Prop := RJ T N b ks L s ∧ s.1 97 129 = b2 tr
theorem oJG.St (o : oJG b s s') (S : StJ T N b ks L tr s) : StJ T N b ks L tr s' := by
  have f : ∀ j, ¬ (j = 61 ∨ j = 62 ∨ j = 95) → s'.1 97 j = s.1 97 j := fun j hj => o.1 97 j (by omega)
  refine ⟨S.1.off (f 63 (by omega)) (fun x hx => funext fun j => o.1 x j (by omega)) (funext fun x => funext fun j => o.2.1 x j (fun e => e)), by rw [f 129 (by omega)]; exact S.2⟩
theorem keepB (J : RJ T N b ks L s) (O : ORD T b ks L) {x : Nat} (hc : c < L.length) (hx : x < L.length) (ne : ¬ x = c) (o : oTy (fun y => ∃ i, ks[i]? = some (hC L c).2.2.1 ∧ ¬ (hC L c).2.2.1 = 0 ∧ y = 800 * b + i) s s') (A : ABr T L b s x) : ABr T L b s' x := by
  have hn := J.2.2.2.2.2.1
  have r := fun y (h1 : ¬ y = 97) (h2 : ¬ y = 139) (h3 : ¬ y = 142) => o.r h1 h2 h3
  unfold ABr at A ⊢
  cases ha : abT T L x with
  | none => rw [ha] at A; dsimp only at A ⊢; rw [r 105 (by decide) (by decide) (by decide)]; exact A
  | some kk =>
    rw [ha] at A
    obtain ⟨v, k, k1, k2, k3, k4⟩ := A
    have z : ¬ (hC L x).2.2.1 = 0 := fun e => by unfold abT at ha; rw [if_pos e] at ha; cases ha
    refine ⟨v, k, k1, by rw [r 105 (by decide) (by decide) (by decide)]; exact k2, by rw [r 138 (by decide) (by decide) (by decide)]; exact k3, k4.keep (vK.n5 hn (vK.cl hn v)).2 o ?_⟩
    obtain ⟨_, i, i1, i2⟩ := (J.hd hx).2.2.2.2.1 z
    intro ⟨j, j1, j2, j3⟩
    have hi := (List.getElem?_eq_some_iff.mp i1).1
    have hj := (List.getElem?_eq_some_iff.mp j1).1
    have l750 := J.2.2.2.1
    have hb := J.b1
    have e : nI (800 * b + i) = nI (800 * b + j) := by rw [← i2, k2, j3]
    have := (nI_eq (by omega) (by omega)).mp e
    have e2 : i = j := by omega
    subst e2
    rw [i1] at j1
    exact (O.2.2 x hx z).2 c hc j2 ne (by simpa using j1)
/-- (a) to (e) -/
theorem x_299a (S : StJ T N b ks L tr s) (Pi : PFi T N L) (P0 : PFm T N L) (O : ORD T b ks L) (g : gR0 s) : ∃ s', mjF (d + 7) 299 [.ref 97] (mjW0 s) = b_299_208 (mjF (d + 6)) 97 (nI (16 * b)) (nI L.length) (mjW0 s') ∧ oJG b s s' ∧ GR s' ∧ (gR0 s' ↔ OKh T L tr) ∧ (gR0 s' → ACY T N L ∧ SJ T N b ks L tr s' ∧ QV T L b (nMem L) s') := by
  have hb := S.1.b1
  have h16 := S.1.len
  have hn := S.1.2.2.2.2.2.1
  have l750 := S.1.2.2.2.1
  have tm : L.length < mjN := by have := mjN_v; omega
  -- (a)
  obtain ⟨s1, a1, S1, G1, i1, _, o1⟩ := phase (b := b) (n := L.length) hb h16 (Lp := L_299_20 (mjF (d + 6))) (nx := b_299_46 (mjF (d + 6))) (call := fun l1 l3 hp => mjF (d + 6) 300 [.ref 97, .int l3, .int l1] hp) (fun _ _ _ _ _ => rfl) (Q := fun _ _ => True) (St := StJ T N b ks L tr) (OK := OKa T L) (Fr := oJG b) (fun _ => offG.rf) (fun _ _ _ h1 h2 => offG.tr h1 h2) (fun c s hc S g _ => by
    obtain ⟨s', x1, x2, x3, x4⟩ := x_300 (d := d + 4) S.1 hc (Or.inl g)
    exact ⟨s', x1, oJG.St (o61.G x2) S, x3, x4.trans ⟨fun y => y.2, fun y => ⟨g, y⟩⟩, fun _ => trivial, o61.G x2⟩) L.length 0 mjN s (by omega) tm S (Or.inl g) (fun _ => trivial)
  -- (b)
  obtain ⟨s2, a2, S2, G2, i2, q2, o2⟩ := phase (b := b) (n := L.length) hb h16 (Lp := L_299_48 (mjF (d + 6))) (nx := b_299_73 (mjF (d + 6))) (call := fun _ l3 hp => mjF (d + 6) 301 [.ref 97, .int l3] hp) (fun _ _ _ _ _ => rfl) (Q := fun c s => ∀ x, x < c → ABr T L b s x) (St := StJ T N b ks L tr) (OK := OKb T L) (Fr := oJG b) (fun _ => offG.rf) (fun _ _ _ h1 h2 => offG.tr h1 h2) (fun c s hc S g q => by
    obtain ⟨s', x1, x2, x3, x4, x5⟩ := x_301 (d := d + 2) S.1 Pi hc (Or.inl g)
    have og : oJG b s s' := oTy.G (x2.mono (fun y ⟨i, y1, _, y3⟩ => by
      have := (List.getElem?_eq_some_iff.mp y1).1
      unfold bkP
      omega))
    refine ⟨s', x1, oJG.St og S, x3, x4.trans ⟨fun y => y.2, fun y => ⟨g, y⟩⟩, fun y x hx => ?_, og⟩
    by_cases e : x = c
    · rw [e]; exact x5 y
    · exact keepB S.1 O hc (by omega) e x2 (q x (by omega))) L.length 0 mjN s1 (by omega) tm S1 G1 (fun _ x hx => by omega)
  -- rings
  obtain ⟨s3, a3, S3, G3, i3, q3, o3⟩ := phase (b := b) (n := L.length) hb h16 (Lp := L_299_75 (mjF (d + 6))) (nx := b_299_100 (mjF (d + 6))) (call := fun _ l3 hp => mjF (d + 6) 306 [.ref 97, .int l3] hp) (fun _ _ _ _ _ => rfl) (Q := fun _ s => ∀ x, x < L.length → ABr T L b s x) (St := StJ T N b ks L tr) (OK := OKr T L) (Fr := oJG b) (fun _ => offG.rf) (fun _ _ _ h1 h2 => offG.tr h1 h2) (fun c s hc S g q => by
    obtain ⟨s', x1, x2, x3, x4⟩ := x_306 (d := d + 4) S.1 hc q (Or.inl g)
    exact ⟨s', x1, oJG.St (o61.G x2) S, x3, x4.trans ⟨fun y => y.2, fun y => ⟨g, y⟩⟩, fun _ x hx => (q x hx).o61 x2, o61.G x2⟩) L.length 0 mjN s2 (by omega) tm S2 G2 q2
  -- (c)
  obtain ⟨s4, a4, S4, G4, i4, q4, o4⟩ := phase (b := b) (n := L.length) hb h16 (Lp := L_299_102 (mjF (d + 6))) (nx := b_299_127 (mjF (d + 6))) (call := fun _ l3 hp => mjF (d + 6) 307 [.ref 97, .int l3] hp) (fun _ _ _ _ _ => rfl) (Q := fun c s => (∀ x, x < L.length → ABr T L b s x) ∧ ∀ x, x < c → ∀ i, i < inL L x → s.1 117 (8 * (16 * b + x) + i) = nI (ipT T L x i).1 ∧ s.1 118 (8 * (16 * b + x) + i) = nI (ipT T L x i).2) (St := StJ T N b ks L tr) (OK := OKc T L) (Fr := oJG b) (fun _ => offG.rf) (fun _ _ _ h1 h2 => offG.tr h1 h2) (fun c s hc S g q => by
    obtain ⟨s', x1, x2, x3, x4, x5⟩ := x_307 (d := d + 4) S.1 hc (Or.inl g)
    refine ⟨s', x1, oJG.St (oIn.G (by omega) x2) S, x3, x4.trans ⟨fun y => y.2, fun y => ⟨g, y⟩⟩, fun y => ⟨fun x hx => ?_, fun x hx i hi => ?_⟩, oIn.G (by omega) x2⟩
    · exact (q.1 x hx).cg (funext fun j => x2.1 105 j (by omega)) (funext fun j => x2.1 138 j (by omega)) (funext fun j => x2.1 139 j (by omega)) (funext fun j => x2.1 142 j (by omega))
    · by_cases e : x = c
      · subst e; exact x5 y i hi
      · have i8 : inL L x ≤ 8 := (S.1.hd (show x < L.length by omega)).2.2.2.2.2.2.2.2
        rw [x2.1 117 _ (by omega), x2.1 118 _ (by omega)]
        exact q.2 x (by omega) i hi) L.length 0 mjN s3 (by omega) tm S3 G3 (fun y => ⟨q3 y, fun x hx => by omega⟩)
  -- what is known
  obtain ⟨s5, a5, S5, G5, i5, q5, o5⟩ := phase (b := b) (n := L.length) hb h16 (Lp := L_299_129 (mjF (d + 6))) (nx := b_299_154 (mjF (d + 6))) (call := fun _ l3 hp => mjF (d + 6) 308 [.ref 97, .int l3] hp) (fun _ _ _ _ _ => rfl) (Q := fun c s => (∀ x, x < L.length → ABr T L b s x) ∧ IRr T L b s ∧ WIT b s c (knF T L)) (St := StJ T N b ks L tr) (OK := fun _ => True) (Fr := oJG b) (fun _ => offG.rf) (fun _ _ _ h1 h2 => offG.tr h1 h2) (fun c s hc S g q => by
    obtain ⟨s', x1, x2, x3⟩ := x_308 (d := d + 5) S.1 hc (fun i hi => q.2.1 c hc i hi)
    have r : ∀ x, ¬ x = 119 → s'.1 x = s.1 x := fun x hx => funext fun j => x2.1 x j (fun e => hx e.1)
    have g' : gR0 s' := by unfold gR0; rw [r 97 (by decide)]; exact g
    refine ⟨s', x1, oJG.St (oW.G (by omega) x2) S, Or.inl g', ⟨fun _ => trivial, fun _ => g'⟩, fun _ => ⟨fun x hx => (q.1 x hx).cg (r 105 (by decide)) (r 138 (by decide)) (r 139 (by decide)) (r 142 (by decide)), by unfold IRr; rw [r 117 (by decide), r 118 (by decide)]; exact q.2.1, fun x hx a ha e he => ?_⟩, oW.G (by omega) x2⟩
    have ra := rwR_lt ha
    have re := rwR_lt he
    by_cases e' : x = c
    · subst e'
      rw [x3 a ha e he]
      unfold knF
      rw [if_pos hc]
    · rw [x2.1 119 _ (by omega)]
      exact q.2.2 x (by omega) a ha e he) L.length 0 mjN s4 (by omega) tm S4 G4 (fun y => ⟨(q4 y).1, (q4 y).2, fun x hx => by omega⟩)
  -- (d)
  obtain ⟨s6, a6, S6, G6, i6, q6, o6⟩ := phase (b := b) (n := L.length) hb h16 (Lp := L_299_156 (mjF (d + 6))) (nx := b_299_181 (mjF (d + 6))) (call := fun _ l3 hp => mjF (d + 6) 309 [.ref 97, .int l3] hp) (fun _ _ _ _ _ => rfl) (Q := fun c s => SJ T N b ks L tr s ∧ QV T L b (fmL L c) s) (St := StJ T N b ks L tr) (OK := OKd T L tr) (Fr := oJG b) (fun _ => offG.rf) (fun _ _ _ h1 h2 => offG.tr h1 h2) (fun c s hc S g q => by
    obtain ⟨s', x1, x2, x3, x4, x5, x6⟩ := x_309 (d := d + 1) O P0 hc q.1 g q.2
    exact ⟨s', x1, oJG.St (oTy.G x6) S, x3, x4, fun y => ⟨x2, by rw [fm_S hc]; exact x5 y⟩, oTy.G x6⟩) L.length 0 mjN s5 (by omega) tm S5 G5 (fun y => ⟨⟨S5.1, (q5 y).2.2, (q5 y).2.1, S5.2⟩, fun x hx => by
      have : fmL L 0 = 0 := rfl
      omega, (q5 y).1⟩)
  have kr : gR0 s6 → ACY T N L := fun y => by
    have y5 := (i6.mp y).1
    have y4 := (i5.mp y5).1
    have y3 := (i4.mp y4).1
    exact ⟨hn, noR_of (fun c hc => (i3.mp y3).2 c (Nat.zero_le _) hc)⟩
  -- (e)
  obtain ⟨s7, a7, S7, G7, i7, q7, o7⟩ := phase (b := b) (n := L.length) hb h16 (Lp := L_299_183 (mjF (d + 6))) (nx := b_299_208 (mjF (d + 6))) (call := fun _ l3 hp => mjF (d + 6) 314 [.ref 97, .int l3] hp) (fun _ _ _ _ _ => rfl) (Q := fun _ s => ACY T N L ∧ SJ T N b ks L tr s ∧ QV T L b (nMem L) s) (St := StJ T N b ks L tr) (OK := fun c => ∀ x, x < mcL L c → OKe2 T L (fmL L c + x)) (Fr := oJG b) (fun _ => offG.rf) (fun _ _ _ h1 h2 => offG.tr h1 h2) (fun c s hc S g q => by
    obtain ⟨s', x1, x2, x3, x4⟩ := x_314 (d := d + 1) q.1 hc S.1 q.2.2 (Or.inl g)
    have r : ∀ x, ¬ x = 97 → ¬ x = 165 → ¬ x = 166 → s'.1 x = s.1 x := fun x h1 h2 h3 => x2.r h1 h2 h3
    refine ⟨s', x1, oJG.St (oOv.G x2) S, x3, x4.trans ⟨fun y => y.2, fun y => ⟨g, y⟩⟩, fun _ => ⟨q.1, ⟨(oJG.St (oOv.G (b := b) x2) S).1, ?_, ?_, (oJG.St (oOv.G (b := b) x2) S).2⟩, x2.Q q.2.2⟩, oOv.G x2⟩
    · unfold WIT; rw [r 119 (by decide) (by decide) (by decide)]; exact q.2.1.2.1
    · unfold IRr; rw [r 117 (by decide) (by decide) (by decide), r 118 (by decide) (by decide) (by decide)]; exact q.2.1.2.2.1) L.length 0 mjN s6 (by omega) tm S6 G6 (fun y => ⟨kr y, (q6 y).1, by have := (q6 y).2; rw [fm_n] at this; exact this⟩)
  refine ⟨s7, ?_, o1.tr (o2.tr (o3.tr (o4.tr (o5.tr (o6.tr o7))))), G7, ?_, q7⟩
  · rw [e_299]
    unfold f_299 b_299_0
    rw [xg_97_63, S.1.1.2, xg_97_11, xg_97_63, S.1.1.2, wa_100 (by omega), S.1.2.1.1, show (16 : Int32) * nI b = nI (16 * b) by rw [show (16 : Int32) = nI 16 from rfl, nI_mul]]
    exact a1.trans (a2.trans (a3.trans (a4.trans (a5.trans (a6.trans a7)))))
  · have hh : ∀ m, m < nMem L → hmM L m < L.length := fun m hm => (S.1.mem hm).2
    have hom : ∀ a, a < L.length → ∀ key o, omT T L a key = some o → o < nMem L ∧ hmM L o = a ∧ nkM T L o = key := by
      intro a ha key o ho
      obtain ⟨x1, x2, x3⟩ := om_lt ho
      obtain ⟨_, _, y3, _⟩ := S.1.mc ha
      have := hm_at (L := L) ha (show o - fmL L a < mcL L a by omega)
      rw [show fmL L a + (o - fmL L a) = o by omega] at this
      exact ⟨by omega, this, x3⟩
    constructor
    · intro y
      have y6 := (i7.mp y).1
      have y5 := (i6.mp y6).1
      have y4 := (i5.mp y5).1
      have y3 := (i4.mp y4).1
      have y2 := (i3.mp y3).1
      have y1 := (i2.mp y2).1
      refine ⟨fun c hc => (i1.mp y1).2 c (Nat.zero_le _) hc, fun c hc => (i2.mp y2).2 c (Nat.zero_le _) hc, fun c hc => (i3.mp y3).2 c (Nat.zero_le _) hc, fun c hc => (i4.mp y4).2 c (Nat.zero_le _) hc, fun c hc => (i6.mp y6).2 c (Nat.zero_le _) hc, ?_⟩
      refine (okE_iff (kr y6) hh hom).mp (fun m hm => ?_)
      obtain ⟨c, i, e1, e2, e3⟩ := fm_ex hm
      rw [e3]
      exact (i7.mp y).2 c (Nat.zero_le _) e1 i e2
    · intro ⟨ka, kb, kr', kc, kd, ke⟩
      have y1 := i1.mpr ⟨g, fun x _ hx => ka x hx⟩
      have y2 := i2.mpr ⟨y1, fun x _ hx => kb x hx⟩
      have y3 := i3.mpr ⟨y2, fun x _ hx => kr' x hx⟩
      have y4 := i4.mpr ⟨y3, fun x _ hx => kc x hx⟩
      have y5 := i5.mpr ⟨y4, fun x _ hx => trivial⟩
      have y6 := i6.mpr ⟨y5, fun x _ hx => kd x hx⟩
      have k2 := (okE_iff (kr y6) hh hom).mpr ke
      refine i7.mpr ⟨y6, fun c _ hc i hi => k2 _ ?_⟩
      obtain ⟨_, _, y3', _⟩ := S.1.mc hc
      omega
end MJA84
end
section
/-! ===== FIELDS of a CLASS and those above it ===== -/
section MJA85
variable {T : TT} {d N b k t c n m v u a o p : Nat} {ks : List Nat} {L : List CD} {s s' : mjSt3}
theorem vw_iff (Ac : ACY T N L) (hc : c < L.length) : (vwT (nmL L) (abT T L) c a).isSome = true ↔ ∃ j, upI (upT T L) j c = some a := by
  have hn := Ac.1
  constructor
  · intro h
    cases hv : vwT (nmL L) (abT T L) c a with
    | none => rw [hv] at h; cases h
    | some w =>
      obtain ⟨j, _, j2, j3⟩ := vwk_at hv
      exact ⟨j, by rw [← j3]; exact chn_c hn hc j w j2⟩
  · intro ⟨j, hj⟩
    obtain ⟨v, v1, v2⟩ := chn_ex hn hc j a hj
    have := vw_chn Ac hc v1 (up_end Ac hc hj)
    rw [v2] at this
    rw [this]
    rfl
theorem up_in (Ac : ACY T N L) (hc : c < L.length) {j : Nat} (h : upI (upT T L) j c = some a) : a < L.length := by
  obtain ⟨v, v1, v2⟩ := chn_ex Ac.1 hc j a h
  rw [← v2]
  exact (chn_v Ac.1 hc j v v1).cl Ac.1
theorem fld_top (Ac : ACY T N L) (hc : c < L.length) (h : upT T L c = none) : fldT T L c = oflL L c := by
  have z : sumN (fun _ => 0) L.length = 0 := by
    have := sumN_le (f := fun _ => 0) (b := 0) (n := L.length) (fun _ _ => Nat.le_refl _)
    omega
  have e := sumN_add (f := fun a => if (vwT (nmL L) (abT T L) c a).isSome = true then oflL L a else 0) (g := fun _ => 0) (c := c) (x := oflL L c) hc (by
    try dsimp only
    rw [if_pos ((vw_iff Ac hc).mpr ⟨0, rfl⟩)]
    omega) (fun i hi ne => by
    try dsimp only
    rw [if_neg]
    intro q
    obtain ⟨j, hj⟩ := (vw_iff Ac hc).mp q
    cases j with
    | zero => cases hj; exact ne rfl
    | succ j =>
      have hj' : (match upT T L c with
        | none => none
        | some b => upI (upT T L) j b) = some i := hj
      rw [h] at hj'
      cases hj')
  unfold fldT
  rw [e, z]
  omega
theorem fld_up (Ac : ACY T N L) (hc : c < L.length) (h : upT T L c = some p) : fldT T L c = fldT T L p + oflL L c := by
  have pl := up_lt Ac.1 hc h
  have st : ∀ j, upI (upT T L) (j + 1) c = upI (upT T L) j p := fun j => by
    show (match upT T L c with
      | none => none
      | some b => upI (upT T L) j b) = _
    rw [h]
  refine sumN_add hc ?_ (fun i hi ne => ?_)
  · try dsimp only
    rw [if_pos ((vw_iff Ac hc).mpr ⟨0, rfl⟩), if_neg]
    · omega
    · intro q
      obtain ⟨j, hj⟩ := (vw_iff Ac pl).mp q
      have j16 := up_end Ac pl hj
      exact Ac.2 c hc j (by omega) (by rw [st]; exact hj)
  · try dsimp only
    by_cases q : (vwT (nmL L) (abT T L) p i).isSome = true
    · rw [if_pos q, if_pos]
      obtain ⟨j, hj⟩ := (vw_iff Ac pl).mp q
      exact (vw_iff Ac hc).mpr ⟨j + 1, by rw [st]; exact hj⟩
    · rw [if_neg q, if_neg]
      intro w
      obtain ⟨j, hj⟩ := (vw_iff Ac hc).mp w
      cases j with
      | zero => cases hj; exact ne rfl
      | succ j =>
        rw [st] at hj
        exact q ((vw_iff Ac pl).mpr ⟨j, hj⟩)
theorem fld_anc (Ac : ACY T N L) : ∀ (j c a : Nat), c < L.length → upI (upT T L) (j + 1) c = some a → fldT T L a + oflL L c ≤ fldT T L c
  | 0, c, a, hc, h => by
    have h' : (match upT T L c with
      | none => none
      | some b => upI (upT T L) 0 b) = some a := h
    cases hu : upT T L c with
    | none => rw [hu] at h'; cases h'
    | some p =>
      rw [hu] at h'
      cases h'
      rw [fld_up Ac hc hu]
      omega
  | j + 1, c, a, hc, h => by
    have h' : (match upT T L c with
      | none => none
      | some b => upI (upT T L) (j + 1) b) = some a := h
    cases hu : upT T L c with
    | none => rw [hu] at h'; cases h'
    | some p =>
      rw [hu] at h'
      have := fld_anc Ac j p a (up_lt Ac.1 hc hu) h'
      rw [fld_up Ac hc hu]
      omega
/-- a FIELD's place -/
theorem num_fld (hm : m < nMem L) (hs : mSM L m = false) : nuM L m < oflL L (hmM L m) ∧ numM T L m = nuM L m + (fldT T L (hmM L m) - oflL L (hmM L m)) := by
  have a := nu_lt hm
  rw [hs] at a
  refine ⟨?_, by unfold numM; rw [hs]; rfl⟩
  unfold oflL
  cases h : L[hmM L m]? with
  | none =>
    rw [h] at a
    exact absurd a (Nat.not_lt_zero _)
  | some D => rw [h] at a; exact a
theorem nu_inj (hm : m < nMem L) (ho : o < nMem L) (hh : hmM L m = hmM L o) (hs : mSM L m = mSM L o) (e : nuM L m = nuM L o) : m = o := by
  have key : ∀ m o, m < nMem L → o < nMem L → hmM L m = hmM L o → mSM L m = mSM L o → m < o → nuM L m < nuM L o := by
    intro m o hm ho hh hs lt
    obtain ⟨c, D, k, h1, h2, h3, h4⟩ := FL_ex hm
    obtain ⟨c', D', k', g1, g2, g3, g4⟩ := FL_ex ho
    have ec : c = c' := by rw [← h4, ← g4, hh]
    subst ec
    rw [h1] at g1
    cases g1
    unfold nuM
    rw [h4, g4, h1]
    dsimp only
    have e1 : m - fmL L c = k := by unfold fmL; omega
    have e2 : o - fmL L c = k' := by unfold fmL; omega
    rw [e1, e2, ← hs]
    have e3 : (D.2.take k')[k]? = some (mdM L m) := by
      rw [List.getElem?_take_of_lt (by omega)]
      exact h2
    have := cnt_lt (b := mSM L m) e3 rfl
    rw [List.take_take, Nat.min_eq_left (by omega)] at this
    exact this
  by_cases q : m = o
  · exact q
  · by_cases g : m < o
    · have := key m o hm ho hh hs g; omega
    · have := key o m ho hm hh.symm hs.symm (by omega); omega
/-- no two FIELDS of a CLASS have one place -/
theorem num_inj (Ac : ACY T N L) (hh : ∀ m, m < nMem L → hmM L m < L.length) (hc : c < L.length) (hm : m < nMem L) (ho : o < nMem L) (sm : mSM L m = false) (so : mSM L o = false) (vm : (vwT (nmL L) (abT T L) c (hmM L m)).isSome = true) (vo : (vwT (nmL L) (abT T L) c (hmM L o)).isSome = true) (e : numM T L m = numM T L o) : m = o := by
  obtain ⟨j, hj⟩ := (vw_iff Ac hc).mp vm
  obtain ⟨j', hj'⟩ := (vw_iff Ac hc).mp vo
  obtain ⟨m1, m2⟩ := num_fld (T := T) hm sm
  obtain ⟨o1, o2⟩ := num_fld (T := T) ho so
  have fm := ofl_fld (T := T) (c := hmM L m) Ac.1
  have fo := ofl_fld (T := T) (c := hmM L o) Ac.1
  have step : ∀ i i' x y, i < i' → upI (upT T L) i c = some x → upI (upT T L) i' c = some y → fldT T L y + oflL L x ≤ fldT T L x := by
    intro i i' x y lt hx hy
    rw [show i' = i + (i' - i - 1 + 1) by omega, upI_add, hx] at hy
    exact fld_anc Ac _ x y (up_in Ac hc hx) hy
  by_cases q : j = j'
  · subst q
    rw [hj] at hj'
    have ea : hmM L m = hmM L o := by simpa using hj'
    rw [ea] at m2
    exact nu_inj hm ho ea (by rw [sm, so]) (by omega)
  · by_cases g : j < j'
    · have := step j j' _ _ g hj hj'
      omega
    · have := step j' j _ _ (by omega) hj' hj
      omega
/-- what stands at a FIELD's place -/
theorem ob_at (Ac : ACY T N L) (hh : ∀ m, m < nMem L → hmM L m < L.length) (hc : c < L.length) (hm : m < nMem L) (sm : mSM L m = false) (vm : (vwT (nmL L) (abT T L) c (hmM L m)).isSome = true) : obT T L c (numM T L m) = decide (2 ≤ tyM T L m) := by
  have any : ∀ (g : Nat → Bool) n, anyB g n = true ↔ ∃ x, x < n ∧ g x = true := by
    intro g n
    induction n with
    | zero => exact ⟨fun e => (by cases e), fun ⟨x, h, _⟩ => (by omega)⟩
    | succ n ih =>
      show (anyB g n || g n) = true ↔ _
      rw [Bool.or_eq_true, ih]
      constructor
      · rintro (⟨x, h1, h2⟩ | h)
        · exact ⟨x, by omega, h2⟩
        · exact ⟨n, by omega, h⟩
      · intro ⟨x, h1, h2⟩
        by_cases e : x = n
        · rw [e] at h2; exact Or.inr h2
        · exact Or.inl ⟨x, by omega, h2⟩
  unfold obT
  rw [Bool.eq_iff_iff, any, decide_eq_true_iff]
  constructor
  · intro ⟨x, x1, x2⟩
    unfold obM at x2
    rw [Bool.and_eq_true, Bool.and_eq_true, Bool.and_eq_true, Bool.not_eq_true', decide_eq_true_iff, decide_eq_true_iff] at x2
    obtain ⟨⟨⟨y1, y2⟩, y3⟩, y4⟩ := x2
    have := num_inj Ac hh hc x1 hm y1 sm y3 vm y4
    rw [← this]
    exact y2
  · intro h
    refine ⟨m, hm, ?_⟩
    unfold obM
    rw [sm, vm, decide_eq_true h, decide_eq_true rfl]
    rfl
end MJA85
end
section
/-! ===== the reference: places ===== -/
def oPl (b C : Nat) : mjSt3 → mjSt3 → Prop := offG (fun h j => (h = 109 ∧ j = C) ∨ (h = 110 ∧ 16 * b ≤ j ∧ j < 16 * b + 16) ∨ (h = 130 ∧ 400 * b ≤ j ∧ j < 400 * b + 400) ∨ h = 183 ∨ (h = 184 ∧ 400 * C ≤ j ∧ j < 400 * C + 400)) (fun _ _ => False)
/-- what is right stays right -/
def KPl (T : TT) (L : List CD) (b c : Nat) (s s' : mjSt3) : Prop := (∀ m, m < nMem L → s.1 130 (400 * b + m) = nI (numM T L m) → s'.1 130 (400 * b + m) = nI (numM T L m)) ∧ (∀ m, m < nMem L → mSM L m = false → (vwT (nmL L) (abT T L) c (hmM L m)).isSome = true → s.1 184 (400 * (16 * b + c) + numM T L m) = b2 (decide (2 ≤ tyM T L m)) → s'.1 184 (400 * (16 * b + c) + numM T L m) = b2 (decide (2 ≤ tyM T L m))) ∧ ∀ a, a < L.length → s.1 110 (16 * b + a) = nI (mthL L a) → s'.1 110 (16 * b + a) = nI (mthL L a)
/-- MEMBER m has its place -/
def PL1 (T : TT) (L : List CD) (b c : Nat) (s : mjSt3) (m : Nat) : Prop := s.1 130 (400 * b + m) = nI (numM T L m) ∧ (mSM L m = false → s.1 184 (400 * (16 * b + c) + numM T L m) = b2 (decide (2 ≤ tyM T L m)))
section MJA86
variable {T : TT} {d N b k t c n m v u a o p C : Nat} {ks : List Nat} {L : List CD} {s s' : mjSt3}
theorem KPl.rf : KPl T L b c s s := ⟨fun _ _ h => h, fun _ _ _ _ h => h, fun _ _ h => h⟩
theorem KPl.trn {x y z : mjSt3} (h : KPl T L b c x y) (g : KPl T L b c y z) : KPl T L b c x z := ⟨fun m hm e => g.1 m hm (h.1 m hm e), fun m hm hs hv e => g.2.1 m hm hs hv (h.2.1 m hm hs hv e), fun a ha e => g.2.2 a ha (h.2.2 a ha e)⟩
theorem oPl.J (o : oPl b C s s') (J : RJ T N b ks L s) : RJ T N b ks L s' := J.off (o.1 97 63 (by omega)) (fun x hx => funext fun j => o.1 x j (by omega)) (funext fun x => funext fun j => o.2.1 x j (fun e => e))
theorem oPl.r (o : oPl b C s s') {h : Nat} (hh : ¬ (h = 109 ∨ h = 110 ∨ h = 130 ∨ h = 183 ∨ h = 184)) : s'.1 h = s.1 h := funext fun j => o.1 h j (by omega)
theorem oPl.M (o : oPl b C s s') (K : TMr T L b s m) : TMr T L b s' m := ⟨by rw [o.r (by decide)]; exact K.1.cg (o.r (by decide)) (o.r (by decide)) (o.r (by decide)), fun i hi => by rw [o.r (by decide)]; exact (K.2 i hi).cg (o.r (by decide)) (o.r (by decide)) (o.r (by decide))⟩
theorem oPl.A (o : oPl b C s s') (A : ABr T L b s c) : ABr T L b s' c := A.cg (o.r (by decide)) (o.r (by decide)) (o.r (by decide)) (o.r (by decide))
theorem oPl.Q (o : oPl b C s s') (V : QV T L b m s) : QV T L b m s' := ⟨fun x hx => o.M (V.1 x hx), fun x hx => o.A (V.2 x hx)⟩
theorem TKr.neg {ti : Int32} {ty : Nat} (K : TKr L b s ti ty) : ti < 0 ↔ ¬ 2 ≤ ty := by
  match ty, K with
  | 0, K => rw [show ti = -1 from K]; decide
  | kk + 2, ⟨v, k, k1, k2, _, _⟩ => rw [k2]; exact ⟨fun e => absurd e (nI_pos (by omega)), fun e => absurd (by omega) e⟩
theorem L321_70 (R : mjR) (k : Nat → Int32 → Int32 → Int32 → mjH → mjU) (n a : Nat) (b e f g i j : Int32) (hp : mjH) : L_321_70 R k (n + 1) a b e f g i j hp = b_321_70 R k (L_321_70 R k n) a b e f g i j hp := rfl
theorem L321_35 (R : mjR) (n a : Nat) (b e f : Int32) (hp : mjH) : L_321_35 R (n + 1) a b e f hp = b_321_35 R (L_321_35 R n) a b e f hp := rfl
theorem L321_4 (R : mjR) (n a : Nat) (b e f : Int32) (hp : mjH) : L_321_4 R (n + 1) a b e f hp = b_321_4 R (L_321_4 R n) a b e f hp := rfl
/-- how many METHODS, FIELDS stand ahead -/
theorem nu_at {E : CD} (ha : L[a]? = some E) {i : Nat} (hi : i < E.2.length) : nuM L (fmL L a + i) = cntB (mSM L (fmL L a + i)) (E.2.take i) ∧ hmM L (fmL L a + i) = a ∧ E.2[i]? = some (mdM L (fmL L a + i)) := by
  obtain ⟨md, hmd⟩ : ∃ md, E.2[i]? = some md := ⟨_, List.getElem?_eq_getElem hi⟩
  have e := FL_at ha hmd
  have e1 : hmM L (fmL L a + i) = a := e.1
  have e2 : mdM L (fmL L a + i) = md := e.2
  refine ⟨?_, e1, by rw [e2]; exact hmd⟩
  unfold nuM
  rw [e1, ha]
  dsimp only
  rw [show fmL L a + i - fmL L a = i by omega]
theorem cnt_S {E : CD} {i : Nat} {md : MD} (h : E.2[i]? = some md) (q : Bool) : cntB q (E.2.take (i + 1)) = cntB q (E.2.take i) + (if md.2.2.1 = q then 1 else 0) := by
  rw [List.take_succ, h]
  unfold cntB
  show (List.filter _ (List.take i E.2 ++ [md])).length = _
  rw [List.filter_append, List.length_append]
  congr 1
  cases hq : md.2.2.1 <;> cases q <;> simp [hq]
/-- the MEMBERS of one CLASS of the chain -/
theorem lq_321m (Ac : ACY T N L) (hc : c < L.length) {E : CD} (hE : L[a]? = some E) (va : (vwT (nmL L) (abT T L) c a).isSome = true) {F kx : Nat} (hF : F + oflL L a = fldT T L a) (hk : kx < 16) {k35 : Nat → Int32 → Int32 → Int32 → mjH → mjU} (R : mjR) : ∀ (r i n : Nat) (s : mjSt3), i + r = E.2.length → r < n → RJ T N b ks L s → QV T L b (nMem L) s → s.1 183 kx = nI (16 * b + a) → ∃ s', L_321_70 R k35 n 97 (nI (16 * b + c)) (nI (F + cntB false (E.2.take i))) (nI kx) (nI (cntB true (E.2.take i))) (nI (400 * b + fmL L a)) (nI (400 * b + fmL L a + i)) (mjW0 s) = k35 97 (nI (16 * b + c)) (nI (fldT T L a)) (nI kx + (-1)) (mjW0 s') ∧ oPl b (16 * b + c) s s' ∧ s'.1 183 = s.1 183 ∧ KPl T L b c s s' ∧ (∀ x, i ≤ x → x < E.2.length → PL1 T L b c s' (fmL L a + x)) ∧ s'.1 110 (16 * b + a) = nI (mthL L a)
  | r, i, 0, s, e, hr, J, V, h183 => by omega
  | 0, i, n + 1, s, e, hr, J, V, h183 => by
    have hb := J.b1
    have h16 := J.len
    have m384 := J.n384
    have al : a < L.length := (List.getElem?_eq_some_iff.mp hE).1
    obtain ⟨c1, c2, c3, c4⟩ := J.mc al
    have mc : mcL L a = E.2.length := by unfold mcL; rw [hE]
    have ei : i = E.2.length := by omega
    have mt : cntB true (E.2.take i) = mthL L a := by rw [ei, List.take_length]; unfold mthL; rw [hE]
    have fl : F + cntB false (E.2.take i) = fldT T L a := by rw [ei, List.take_length, ← hF]; unfold oflL; rw [hE]
    obtain ⟨z, hz⟩ : ∃ z, z = uI s 110 (upd (s.1 110) (16 * b + a) (nI (mthL L a))) := ⟨_, rfl⟩
    refine ⟨z, ?_, by rw [hz]; exact offG.w (Or.inr (Or.inl ⟨rfl, by omega, by omega⟩)), by rw [hz, uI_ne _ _ _ _ (by decide)], ⟨fun m _ h => by rw [hz, uI_ne _ _ _ _ (by decide)]; exact h, fun m _ _ _ h => by rw [hz, uI_ne _ _ _ _ (by decide)]; exact h, fun x hx h => ?_⟩, fun x h1 h2 => by omega, by rw [hz, uI_same, upd_g, if_pos rfl]⟩
    · rw [L321_70]
      unfold b_321_70
      rw [xg_97_19, xg_97_130, wa_183 hk, h183, wa_108 (by omega), c1, nI_ad, if_pos (nI_le (by omega) (by omega)), xg_97_21, xg_97_130, wa_183 hk, h183, ws_110 (by omega), mt, fl, ← hz]
    · rw [hz, uI_same, upd_g]
      by_cases e' : x = a
      · rw [if_pos (by rw [e']), e']
      · rw [if_neg (by omega)]; exact h
  | r + 1, i, n + 1, s, e, hr, J, V, h183 => by
    have hb := J.b1
    have h16 := J.len
    have hn := Ac.1
    have m384 := J.n384
    have al : a < L.length := (List.getElem?_eq_some_iff.mp hE).1
    obtain ⟨c1, c2, c3, c4⟩ := J.mc al
    have mc : mcL L a = E.2.length := by unfold mcL; rw [hE]
    obtain ⟨m, em⟩ : ∃ m, m = fmL L a + i := ⟨_, rfl⟩
    have hm : m < nMem L := by omega
    obtain ⟨n1, n2, n3⟩ := nu_at hE (show i < E.2.length by omega)
    rw [← em] at n1 n2 n3
    have hmax : ∀ q, cntB q (E.2.take i) ≤ E.2.length := fun q => by
      have := cnt_le q (E.2.take i)
      rw [List.length_take] at this
      omega
    have h24 : ∀ x, oflL L x ≤ 24 := by
      intro x
      unfold oflL
      cases hx : L[x]? with
      | none => show 0 ≤ 24; omega
      | some D =>
        have := J.2.2.2.2.1 x D hx
        have := cnt_le false D.2
        show cntB false D.2 ≤ 24
        omega
    have fle : fldT T L a ≤ 384 := fsum_le h24 h16
    have cF : mSM L m = false → cntB false (E.2.take i) < oflL L a := by
      intro hs
      have := (num_fld (T := T) hm hs).1
      rw [n1, hs, n2] at this
      exact this
    have next : ∀ (z : mjSt3) (x1 x2 : Nat), oPl b (16 * b + c) s z → z.1 183 = s.1 183 → KPl T L b c s z → PL1 T L b c z m → x1 = cntB false (E.2.take (i + 1)) → x2 = cntB true (E.2.take (i + 1)) → L_321_70 R k35 (n + 1) 97 (nI (16 * b + c)) (nI (F + cntB false (E.2.take i))) (nI kx) (nI (cntB true (E.2.take i))) (nI (400 * b + fmL L a)) (nI (400 * b + fmL L a + i)) (mjW0 s) = L_321_70 R k35 n 97 (nI (16 * b + c)) (nI (F + x1)) (nI kx) (nI x2) (nI (400 * b + fmL L a)) (nI (400 * b + fmL L a + (i + 1))) (mjW0 z) → ∃ s', L_321_70 R k35 (n + 1) 97 (nI (16 * b + c)) (nI (F + cntB false (E.2.take i))) (nI kx) (nI (cntB true (E.2.take i))) (nI (400 * b + fmL L a)) (nI (400 * b + fmL L a + i)) (mjW0 s) = k35 97 (nI (16 * b + c)) (nI (fldT T L a)) (nI kx + (-1)) (mjW0 s') ∧ oPl b (16 * b + c) s s' ∧ s'.1 183 = s.1 183 ∧ KPl T L b c s s' ∧ (∀ x, i ≤ x → x < E.2.length → PL1 T L b c s' (fmL L a + x)) ∧ s'.1 110 (16 * b + a) = nI (mthL L a) := by
      intro z x1 x2 oz ez kz pz e1 e2 pre
      obtain ⟨s', b1, b2', b3, b4, b5, b6⟩ := lq_321m Ac hc hE va hF hk (k35 := k35) R r (i + 1) n z (by omega) (by omega) (oz.J J) (oz.Q V) (by rw [ez]; exact h183)
      rw [e1, e2] at pre
      refine ⟨s', pre.trans b1, oz.tr b2', by rw [b3, ez], KPl.trn kz b4, fun x h1 h2 => ?_, b6⟩
      by_cases e' : x = i
      · rw [e', ← em]
        exact ⟨b4.1 m hm pz.1, fun hs => b4.2.1 m hm hs (by rw [n2]; exact va) (pz.2 hs)⟩
      · exact b5 x (by omega) h2
    have pre : L_321_70 R k35 (n + 1) 97 (nI (16 * b + c)) (nI (F + cntB false (E.2.take i))) (nI kx) (nI (cntB true (E.2.take i))) (nI (400 * b + fmL L a)) (nI (400 * b + fmL L a + i)) (mjW0 s) = _ := L321_70 _ _ _ _ _ _ _ _ _ _ _
    unfold b_321_70 b_321_150 b_321_154 at pre
    rw [xg_97_19, xg_97_130, wa_183 hk, h183, wa_108 (by omega), c1, nI_ad, if_neg (nI_ge (by omega) (by omega)), xg_97_36, wa_125 (by omega), show s.1 125 (400 * b + fmL L a + i) = b2 (mSM L m) by rw [Nat.add_assoc, ← em]; exact J.sort hm] at pre
    have ix : 400 * b + fmL L a + i = 400 * b + m := by omega
    have md2 : (mdM L m).2.2.1 = mSM L m := rfl
    cases hs : mSM L m with
    | true =>
      obtain ⟨z, hz⟩ : ∃ z, z = uI s 130 (upd (s.1 130) (400 * b + m) (nI (cntB true (E.2.take i)))) := ⟨_, rfl⟩
      have nm : numM T L m = cntB true (E.2.take i) := by unfold numM; rw [if_pos hs, n1, hs]
      rw [hs, if_pos (show b2 true = 1 from rfl), xg_97_41, ix, ws_130 (by omega), ← hz, nI_1, nI_1, show 400 * b + m + 1 = 400 * b + fmL L a + (i + 1) by omega] at pre
      rw [← ix] at pre
      have rz : ∀ y, ¬ y = 130 → z.1 y = s.1 y := fun y hy => by rw [hz]; exact uI_ne _ _ _ _ hy
      refine next z (cntB false (E.2.take i)) (cntB true (E.2.take i) + 1) (by rw [hz]; exact offG.w (Or.inr (Or.inr (Or.inl ⟨rfl, by omega, by omega⟩)))) (rz 183 (by decide)) ⟨fun x hx h => ?_, fun x _ _ _ h => (by rw [rz 184 (by decide)]; exact h), fun x _ h => (by rw [rz 110 (by decide)]; exact h)⟩ ⟨?_, fun h => absurd (hs.symm.trans h) (by decide)⟩ ?_ ?_ pre
      · rw [hz, uI_same, upd_g]
        by_cases e' : x = m
        · rw [if_pos (by rw [e']), e', nm]
        · rw [if_neg (by omega)]; exact h
      · rw [hz, uI_same, upd_g, if_pos rfl, nm]
      · rw [cnt_S n3, md2, hs]; rfl
      · rw [cnt_S n3, md2, hs]; rfl
    | false =>
      have cf := cF hs
      obtain ⟨z, hz⟩ : ∃ z, z = uI s 130 (upd (s.1 130) (400 * b + m) (nI (F + cntB false (E.2.take i)))) := ⟨_, rfl⟩
      obtain ⟨w, hw⟩ : ∃ w, w = uI z 184 (upd (z.1 184) (400 * (16 * b + c) + (F + cntB false (E.2.take i))) (b2 (decide (2 ≤ tyM T L m)))) := ⟨_, rfl⟩
      have nm : numM T L m = F + cntB false (E.2.take i) := by
        have := (num_fld (T := T) hm hs).2
        rw [this, n1, hs, n2]
        omega
      have k126 : z.1 126 (400 * b + m) = s.1 126 (400 * b + m) := by rw [hz, uI_ne _ _ _ _ (by decide)]
      have neg := (V.1 m hm).1.neg
      rw [hs, if_neg (show ¬ b2 false = 1 by decide), xg_97_41, ix, ws_130 (by omega), ← hz, xg_97_131, xg_97_37, wa_126 (by omega), k126] at pre
      have i400 : (400 : Int32) * nI (16 * b + c) + nI (F + cntB false (E.2.take i)) = nI (400 * (16 * b + c) + (F + cntB false (E.2.take i))) := by rw [show (400 : Int32) = nI 400 from rfl, nI_mul, nI_ad]
      have pre' : L_321_70 R k35 (n + 1) 97 (nI (16 * b + c)) (nI (F + cntB false (E.2.take i))) (nI kx) (nI (cntB true (E.2.take i))) (nI (400 * b + fmL L a)) (nI (400 * b + m)) (mjW0 s) = L_321_70 R k35 n 97 (nI (16 * b + c)) (nI (F + (cntB false (E.2.take i) + 1))) (nI kx) (nI (cntB true (E.2.take i))) (nI (400 * b + fmL L a)) (nI (400 * b + fmL L a + (i + 1))) (mjW0 w) := by
        by_cases q : 2 ≤ tyM T L m
        · have hw' : w = uI z 184 (upd (z.1 184) (400 * (16 * b + c) + (F + cntB false (E.2.take i))) 1) := by rw [hw, decide_eq_true q]; rfl
          rw [if_neg (fun x => neg.mp x q), i400, ws_184 (by omega), nar1b, ← hw'] at pre
          simp only [nI_1] at pre
          rw [pre, show 400 * b + m + 1 = 400 * b + fmL L a + (i + 1) by omega, Nat.add_assoc]
        · have hw' : w = uI z 184 (upd (z.1 184) (400 * (16 * b + c) + (F + cntB false (E.2.take i))) 0) := by rw [hw, decide_eq_false q]; rfl
          rw [if_pos (neg.mpr q), i400, ws_184 (by omega), nar0b, ← hw'] at pre
          simp only [nI_1] at pre
          rw [pre, show 400 * b + m + 1 = 400 * b + fmL L a + (i + 1) by omega, Nat.add_assoc]
      rw [← ix] at pre'
      have o1 : oPl b (16 * b + c) s z := by rw [hz]; exact offG.w (Or.inr (Or.inr (Or.inl ⟨rfl, by omega, by omega⟩)))
      have o2 : oPl b (16 * b + c) z w := by rw [hw]; exact offG.w (Or.inr (Or.inr (Or.inr (Or.inr ⟨rfl, by omega, by omega⟩))))
      refine next w (cntB false (E.2.take i) + 1) (cntB true (E.2.take i)) (o1.tr o2) (by rw [hw, uI_ne _ _ _ _ (by decide), hz, uI_ne _ _ _ _ (by decide)]) ⟨fun x hx h => ?_, fun x hx hsx vx h => ?_, fun x _ h => by rw [hw, uI_ne _ _ _ _ (by decide), hz, uI_ne _ _ _ _ (by decide)]; exact h⟩ ⟨?_, fun _ => ?_⟩ ?_ ?_ pre'
      · rw [hw, uI_ne _ _ _ _ (by decide), hz, uI_same, upd_g]
        by_cases e' : x = m
        · rw [if_pos (by rw [e']), e', nm]
        · rw [if_neg (by omega)]; exact h
      · rw [hw, uI_same, upd_g]
        by_cases e' : numM T L x = numM T L m
        · have := num_inj Ac (fun y hy => (J.mem hy).2) hc hx hm hsx hs vx (by rw [n2]; exact va) e'
          rw [if_pos (by rw [← nm, e']), this]
        · rw [if_neg (by omega), hz, uI_ne _ _ _ _ (by decide)]; exact h
      · rw [hw, uI_ne _ _ _ _ (by decide), hz, uI_same, upd_g, if_pos rfl, nm]
      · rw [hw, uI_same, upd_g, nm, if_pos rfl]
      · rw [cnt_S n3, md2, hs]; rfl
      · rw [cnt_S n3, md2, hs]; rfl
end MJA86
end
section
/-! ===== the reference: places, all of it ===== -/
/-- the places of CLASS c and of all above it -/
def PLc (T : TT) (L : List CD) (b c : Nat) (s : mjSt3) : Prop := s.1 109 (16 * b + c) = nI (fldT T L c) ∧ ∀ x a, upI (upT T L) x c = some a → s.1 110 (16 * b + a) = nI (mthL L a) ∧ ∀ i, i < mcL L a → PL1 T L b c s (fmL L a + i)
def PLr (T : TT) (L : List CD) (b : Nat) (s : mjSt3) : Prop := (∀ c, c < L.length → s.1 109 (16 * b + c) = nI (fldT T L c) ∧ s.1 110 (16 * b + c) = nI (mthL L c)) ∧ (∀ m, m < nMem L → s.1 130 (400 * b + m) = nI (numM T L m)) ∧ ∀ c, c < L.length → ∀ m, m < nMem L → mSM L m = false → (vwT (nmL L) (abT T L) c (hmM L m)).isSome = true → s.1 184 (400 * (16 * b + c) + numM T L m) = b2 (decide (2 ≤ tyM T L m))
/-- all that places changes in bank b -/
def oPs (b : Nat) : mjSt3 → mjSt3 → Prop := offG (fun h j => ((h = 109 ∨ h = 110) ∧ 16 * b ≤ j ∧ j < 16 * b + 16) ∨ (h = 130 ∧ 400 * b ≤ j ∧ j < 400 * b + 400) ∨ h = 183 ∨ (h = 184 ∧ 6400 * b ≤ j ∧ j < 6400 * b + 6400)) (fun _ _ => False)
section MJA87
variable {T : TT} {d N b k t c n m v u a o p C : Nat} {ks : List Nat} {L : List CD} {s s' : mjSt3}
theorem oPl.S (hc : c < 16) (h : oPl b (16 * b + c) s s') : oPs b s s' := offG.mono h (fun x y q => by omega) (fun _ _ q => q)
theorem nI_m (k : Nat) : nI (k + 1) + (-1) = nI k := by
  rw [nI_succ, Int32.add_assoc, show (1 : Int32) + -1 = 0 from rfl, Int32.add_zero]
theorem upI_1 {j : Nat} (h1 : upI (upT T L) j c = some a) (h2 : upI (upT T L) (j + 1) c = some p) : upT T L a = some p := by
  rw [upI_S, h1] at h2
  exact h2
theorem lq_321k (Ac : ACY T N L) (hc : c < L.length) (R : mjR) : ∀ (k m : Nat) (s : mjSt3) (a : Nat), k < 16 → k + 1 < m → RJ T N b ks L s → QV T L b (nMem L) s → (∀ x, x ≤ k → ∃ y, upI (upT T L) x c = some y ∧ s.1 183 x = nI (16 * b + y)) → upI (upT T L) k c = some a → ∃ s', L_321_35 R m 97 (nI (16 * b + c)) (nI (fldT T L a - oflL L a)) (nI k) (mjW0 s) = some (none, mjW0 s') ∧ oPl b (16 * b + c) s s' ∧ KPl T L b c s s' ∧ s'.1 109 (16 * b + c) = nI (fldT T L c) ∧ ∀ x, x ≤ k → ∀ y, upI (upT T L) x c = some y → s'.1 110 (16 * b + y) = nI (mthL L y) ∧ ∀ i, i < mcL L y → PL1 T L b c s' (fmL L y + i)
  | k, 0, s, a, h16', hm, J, V, h183, ha => by omega
  | k, m + 1, s, a, h16', hm, J, V, h183, ha => by
    have hb := J.b1
    have h16 := J.len
    have m384 := J.n384
    have al := up_in Ac hc ha
    obtain ⟨E, hE⟩ : ∃ E, L[a]? = some E := ⟨_, List.getElem?_eq_getElem al⟩
    have mc : mcL L a = E.2.length := by unfold mcL; rw [hE]
    obtain ⟨c1, c2, c3, c4⟩ := J.mc al
    have of := ofl_fld (T := T) (c := a) Ac.1
    obtain ⟨y, hy, h18⟩ := h183 k (Nat.le_refl _)
    rw [ha] at hy
    cases hy
    obtain ⟨s1, e1, o1, r1, k1, p1, q1⟩ := lq_321m (kx := k) (k35 := L_321_35 R m) (b := b) (ks := ks) Ac hc hE ((vw_iff Ac hc).mpr ⟨k, ha⟩) (show fldT T L a - oflL L a + oflL L a = fldT T L a by omega) h16' R E.2.length 0 mjN s (by omega) (by have := mjN_v; omega) J V h18
    have pre : L_321_35 R (m + 1) 97 (nI (16 * b + c)) (nI (fldT T L a - oflL L a)) (nI k) (mjW0 s) = L_321_35 R m 97 (nI (16 * b + c)) (nI (fldT T L a)) (nI k + (-1)) (mjW0 s1) := by
      rw [← e1, L321_35]
      unfold b_321_35
      rw [if_neg (nI_pos (by omega)), xg_97_18, xg_97_130, wa_183 h16', h18, wa_107 (by omega), c2, xg_97_63, J.1.2, i4m]
      rfl
    rw [pre]
    have mine : ∀ z, KPl T L b c s1 z → z.1 110 (16 * b + a) = nI (mthL L a) ∧ ∀ i, i < mcL L a → PL1 T L b c z (fmL L a + i) := by
      intro z hz
      refine ⟨hz.2.2 a al q1, fun i hi => ?_⟩
      have pi := p1 i (Nat.zero_le _) (by omega)
      have hmi : fmL L a + i < nMem L := by omega
      have hai : hmM L (fmL L a + i) = a := (nu_at hE (show i < E.2.length by omega)).2.1
      exact ⟨hz.1 _ hmi pi.1, fun hs => hz.2.1 _ hmi hs (by rw [hai]; exact (vw_iff Ac hc).mpr ⟨k, ha⟩) (pi.2 hs)⟩
    cases k with
    | zero =>
      cases ha
      obtain ⟨m, rfl⟩ : ∃ m', m = m' + 1 := ⟨m - 1, by omega⟩
      obtain ⟨z, hz⟩ : ∃ z, z = uI s1 109 (upd (s1.1 109) (16 * b + c) (nI (fldT T L c))) := ⟨_, rfl⟩
      have rz : ∀ y, ¬ y = 109 → z.1 y = s1.1 y := fun y hy => by rw [hz]; exact uI_ne _ _ _ _ hy
      have kz : KPl T L b c s1 z := ⟨fun x _ h => (by rw [rz 130 (by decide)]; exact h), fun x _ _ _ h => (by rw [rz 184 (by decide)]; exact h), fun x _ h => (by rw [rz 110 (by decide)]; exact h)⟩
      refine ⟨z, ?_, o1.tr (by rw [hz]; exact offG.w (Or.inl ⟨rfl, rfl⟩)), KPl.trn k1 kz, by rw [hz, uI_same, upd_g, if_pos rfl], fun x hx y hy => ?_⟩
      · rw [L321_35]
        unfold b_321_35
        rw [if_pos (show nI 0 + (-1) < 0 by decide), xg_97_20, ws_109 (by omega), ← hz]
      · have ex : x = 0 := by omega
        subst ex
        cases hy
        exact mine z kz
    | succ j =>
      obtain ⟨y, hy, hy2⟩ := h183 j (by omega)
      have hu := upI_1 hy ha
      have yl := up_in Ac hc hy
      have fe := fld_up Ac yl hu
      rw [nI_m, show fldT T L a = fldT T L y - oflL L y by omega]
      obtain ⟨s', b1, b2', b3, b4, b5⟩ := lq_321k Ac hc R j m s1 y (by omega) (by omega) (o1.J J) (o1.Q V) (fun x hx => by
        obtain ⟨w, w1, w2⟩ := h183 x (by omega)
        exact ⟨w, w1, by rw [r1]; exact w2⟩) hy
      refine ⟨s', b1, o1.tr b2', KPl.trn k1 b3, b4, fun x hx w hw => ?_⟩
      by_cases e : x = j + 1
      · subst e
        rw [ha] at hw
        cases hw
        exact mine s' b3
      · exact b5 x (by omega) w hw
/-- the chain of CLASSES -/
theorem lq_321a (Ac : ACY T N L) (hc : c < L.length) : ∀ (r j m : Nat) (s : mjSt3), j + r = 16 → r < m → RJ T N b ks L s → (∀ x, x < L.length → ABr T L b s x) → (∀ x, x < j → ∃ y, upI (upT T L) x c = some y ∧ s.1 183 x = nI (16 * b + y)) → ∃ s' n, L_321_4 (mjF (d + 1)) m 97 (nI (16 * b + c)) (nI j) (cR b (upI (upT T L) j c)) (mjW0 s) = L_321_35 (mjF (d + 1)) mjN 97 (nI (16 * b + c)) (nI 0) (nI n - 1) (mjW0 s') ∧ oPl b (16 * b + c) s s' ∧ (∀ x, ¬ x = 183 → s'.1 x = s.1 x) ∧ n ≤ 16 ∧ j ≤ n ∧ upI (upT T L) n c = none ∧ ∀ x, x < n → ∃ y, upI (upT T L) x c = some y ∧ s'.1 183 x = nI (16 * b + y)
  | r, j, 0, s, e, hr, J, A, h => by omega
  | r, j, m + 1, s, e, hr, J, A, h => by
    have hb := J.b1
    have h16 := J.len
    have hn := Ac.1
    cases hu : upI (upT T L) j c with
    | none =>
      refine ⟨s, j, ?_, offG.rf, fun _ _ => rfl, by omega, Nat.le_refl _, hu, h⟩
      rw [L321_4]
      unfold b_321_4
      rw [if_pos (show cR b none = -1 from rfl)]
      rfl
    | some a =>
      have al := up_in Ac hc hu
      have j16 := up_end Ac hc hu
      obtain ⟨r, rfl⟩ : ∃ r', r = r' + 1 := ⟨r - 1, by omega⟩
      obtain ⟨z, hz⟩ : ∃ z, z = uI s 183 (upd (s.1 183) j (nI (16 * b + a))) := ⟨_, rfl⟩
      have oz : oPl b (16 * b + c) s z := by rw [hz]; exact offG.w (Or.inr (Or.inr (Or.inr (Or.inl rfl))))
      have ea : upT T L a = upI (upT T L) (j + 1) c := by rw [upI_S, hu]
      obtain ⟨s', n, b1, b2', br, b3, b4, b5, b6⟩ := lq_321a Ac hc r (j + 1) m z (by omega) (by omega) (oz.J J) (fun x hx => oz.A (A x hx)) (fun x hx => by
        by_cases e' : x = j
        · subst e'; exact ⟨a, hu, by rw [hz, uI_same, upd_g, if_pos rfl]⟩
        · obtain ⟨y, y1, y2⟩ := h x (by omega)
          exact ⟨y, y1, by rw [hz, uI_same, upd_g, if_neg e']; exact y2⟩)
      refine ⟨s', n, ?_, oz.tr b2', fun x hx => by rw [br x hx, hz, uI_ne _ _ _ _ hx], b3, by omega, b5, b6⟩
      rw [← b1, L321_4]
      unfold b_321_4
      rw [if_neg (show ¬ cR b (some a) = -1 from nI_m1 (by omega)), xg_97_130, show cR b (some a) = nI (16 * b + a) from rfl, ws_183 (by omega), ← hz, xV_97, x_242 hb h16 hn al (oz.A (A a al)), bI_s, nI_1, ea]
/-- places -/
theorem x_321 (Ac : ACY T N L) (J : RJ T N b ks L s) (V : QV T L b (nMem L) s) (hc : c < L.length) : ∃ s', mjF (d + 2) 321 [.ref 97, .int (nI (16 * b + c))] (mjW0 s) = some (none, mjW0 s') ∧ oPl b (16 * b + c) s s' ∧ KPl T L b c s s' ∧ PLc T L b c s' := by
  have hb := J.b1
  have h16 := J.len
  obtain ⟨s1, n, a1, a2, r1, a3, a4, a5, a6⟩ := lq_321a (d := d) Ac hc 16 0 mjN s (by omega) (by have := mjN_v; omega) J V.2 (fun x hx => by omega)
  have n1 : 1 ≤ n := by
    cases n with
    | zero => cases a5
    | succ n => omega
  obtain ⟨n, rfl⟩ : ∃ n', n = n' + 1 := ⟨n - 1, by omega⟩
  obtain ⟨a, ha, _⟩ := a6 n (by omega)
  have al := up_in Ac hc ha
  have ut : upT T L a = none := by rw [upI_S, ha] at a5; exact a5
  have ft := fld_top Ac al ut
  obtain ⟨s', b1, b2', b3, b4, b5⟩ := lq_321k (b := b) (ks := ks) Ac hc (mjF (d + 1)) n mjN s1 a (by omega) (by have := mjN_v; omega) (a2.J J) (a2.Q V) (fun x hx => a6 x (by omega)) ha
  rw [show fldT T L a - oflL L a = 0 by omega] at b1
  -- the chain's row alone changed till there; what is right stays right from s on
  have k0 : KPl T L b c s s1 → KPl T L b c s s' := fun h => KPl.trn h b3
  refine ⟨s', ?_, a2.tr b2', k0 ⟨fun x _ h => (by rw [r1 130 (by decide)]; exact h), fun x _ _ _ h => (by rw [r1 184 (by decide)]; exact h), fun x _ h => (by rw [r1 110 (by decide)]; exact h)⟩, b4, fun x y hy => ?_⟩
  · rw [e_321]
    unfold f_321 b_321_0
    rw [← b1, ← nI_pred n]
    exact a1
  · refine b5 x ?_ y hy
    have : ¬ n + 1 ≤ x := by
      intro g
      have := upI_none a5 (x - (n + 1))
      rw [show n + 1 + (x - (n + 1)) = x by omega, hy] at this
      cases this
    omega
end MJA87
end
section
/-! ===== the orders of an E: KINDS by number, how much waits ===== -/
/-- KINDS ahead, TYPES that wait, calls that wait (how many values are asked for, how many are there), values that wait -/
abbrev HS : Type := Nat × Nat × List (Nat × Nat) × Nat
def bump : List (Nat × Nat) → List (Nat × Nat)
  | e :: l => (e.1, e.2 + 1) :: l
  | [] => []
def hxE (r : Row) (x : HS) : HS :=
  if r.1 = 3 ∨ r.1 = 4 ∨ r.1 = 5 ∨ r.1 = 6 then (x.1, x.2.1 + 1, x.2.2.1, x.2.2.2 + 1)
  else if r.1 = 7 then (x.1 + 1, x.2.1 + 1, x.2.2.1, x.2.2.2 + 1)
  else if r.1 = 9 then (x.1, x.2.1 - 1, x.2.2.1, x.2.2.2 - 1)
  else if r.1 = 14 then (x.1 + 1, x.2)
  else if r.1 = 11 then (x.1, x.2.1 - 1, (nN r.2.2.2.1, 0) :: x.2.2.1, x.2.2.2)
  else if r.1 = 12 then (x.1, x.2.1 - 1, bump x.2.2.1, x.2.2.2)
  else if r.1 = 13 then (x.1, x.2.1 + 1, x.2.2.1.tail, x.2.2.2 - nN r.2.2.1)
  else x
/-- what an order needs -/
def loE (r : Row) (x : HS) : Prop := (r.1 = 9 → 2 ≤ x.2.1 ∧ 2 ≤ x.2.2.2) ∧ (r.1 = 10 ∨ r.1 = 30 ∨ r.1 = 8 ∨ r.1 = 14 ∨ r.1 = 11 → 1 ≤ x.2.1 ∧ 1 ≤ x.2.2.2) ∧ (r.1 = 11 → ∃ n, n ≤ 6 ∧ r.2.2.2.1 = nI n) ∧ (r.1 = 12 → 1 ≤ x.2.1 ∧ ∃ n i l, x.2.2.1 = (n, i) :: l ∧ i < n ∧ n ≤ 6 ∧ r.2.2.1 = nI i) ∧ (r.1 = 13 → ∃ n l, x.2.2.1 = (n, n) :: l ∧ r.2.2.1 = nI n ∧ n ≤ 6 ∧ n + 1 ≤ x.2.2.2)
/-- an order of an E at x, no more than h, p, q waits behind it -/
def okEr (H P Q : Nat) (r : Row) (x : HS) : Prop := (r.1 = 3 ∨ r.1 = 4 ∨ r.1 = 5 ∨ r.1 = 6 ∨ r.1 = 7 ∨ r.1 = 8 ∨ r.1 = 9 ∨ r.1 = 10 ∨ r.1 = 11 ∨ r.1 = 12 ∨ r.1 = 13 ∨ r.1 = 14 ∨ r.1 = 30) ∧ (r.1 = 7 ∨ r.1 = 14 → r.2.2.1 = nI x.1) ∧ (hxE r x).2.1 ≤ H ∧ (hxE r x).2.2.1.length ≤ P ∧ (hxE r x).2.2.2 ≤ Q ∧ loE r x
def scE (H P Q : Nat) : List Row → HS → Prop
  | [], _ => True
  | r :: l, x => okEr H P Q r x ∧ scE H P Q l (hxE r x)
def fdE : List Row → HS → HS
  | [], x => x
  | r :: l, x => fdE l (hxE r x)
section MJA88
variable {T : TT} {M H P Q : Nat}
theorem loE_9 {r : Row} {x : HS} (h : r.1 = 9) (h1 : 2 ≤ x.2.1) (h2 : 2 ≤ x.2.2.2) : loE r x := by
  refine ⟨fun _ => ⟨h1, h2⟩, fun g => ?_, fun g => ?_, fun g => ?_, fun g => ?_⟩ <;> exact absurd g (by rw [h]; decide)
theorem loE_1 {r : Row} {x : HS} (h : r.1 = 10 ∨ r.1 = 30 ∨ r.1 = 8 ∨ r.1 = 14) (h1 : 1 ≤ x.2.1) (h2 : 1 ≤ x.2.2.2) : loE r x := by
  refine ⟨fun g => ?_, fun _ => ⟨h1, h2⟩, fun g => ?_, fun g => ?_, fun g => ?_⟩ <;> rcases h with h | h | h | h <;> exact absurd g (by rw [h]; decide)
theorem loE_11 {r : Row} {x : HS} (h : r.1 = 11) (h1 : 1 ≤ x.2.1) (h2 : 1 ≤ x.2.2.2) (h3 : ∃ n, n ≤ 6 ∧ r.2.2.2.1 = nI n) : loE r x := by
  refine ⟨fun g => ?_, fun _ => ⟨h1, h2⟩, fun _ => h3, fun g => ?_, fun g => ?_⟩ <;> exact absurd g (by rw [h]; decide)
theorem loE_12 {r : Row} {x : HS} (h : r.1 = 12) (h1 : 1 ≤ x.2.1 ∧ ∃ n i l, x.2.2.1 = (n, i) :: l ∧ i < n ∧ n ≤ 6 ∧ r.2.2.1 = nI i) : loE r x := by
  refine ⟨fun g => ?_, fun g => ?_, fun g => ?_, fun _ => h1, fun g => ?_⟩ <;> exact absurd g (by rw [h]; decide)
theorem loE_13 {r : Row} {x : HS} (h : r.1 = 13) (h1 : ∃ n l, x.2.2.1 = (n, n) :: l ∧ r.2.2.1 = nI n ∧ n ≤ 6 ∧ n + 1 ≤ x.2.2.2) : loE r x := by
  refine ⟨fun g => ?_, fun g => ?_, fun g => ?_, fun g => ?_, fun _ => h1⟩ <;> exact absurd g (by rw [h]; decide)
theorem loE_0 {r : Row} {x : HS} (h : r.1 = 3 ∨ r.1 = 4 ∨ r.1 = 5 ∨ r.1 = 6 ∨ r.1 = 7) : loE r x := by
  refine ⟨fun g => ?_, fun g => ?_, fun g => ?_, fun g => ?_, fun g => ?_⟩ <;> rcases h with h | h | h | h | h <;> exact absurd g (by rw [h]; decide)
theorem scE_app : ∀ (a b : List Row) (x : HS), scE H P Q (a ++ b) x ↔ scE H P Q a x ∧ scE H P Q b (fdE a x)
  | [], b, x => ⟨fun h => ⟨trivial, h⟩, fun h => h.2⟩
  | r :: a, b, x => by
    show okEr H P Q r x ∧ scE H P Q (a ++ b) (hxE r x) ↔ (okEr H P Q r x ∧ scE H P Q a (hxE r x)) ∧ scE H P Q b (fdE a (hxE r x))
    rw [scE_app a b, and_assoc]
theorem fdE_app : ∀ (a b : List Row) (x : HS), fdE (a ++ b) x = fdE b (fdE a x)
  | [], _, _ => rfl
  | r :: a, b, x => fdE_app a b (hxE r x)
/-- KINDS of an E: where they stand -/
def kdR (T : TT) (a b : Nat) (l : List Nat) : Prop := ∀ t, t ∈ l → a ≤ t ∧ t < b ∧ ∃ c', pKind T t = .inr c'
theorem kdR.nil {a b : Nat} : kdR T a b [] := fun t h => by cases h
theorem kdR.mono {a b a' b' : Nat} {l : List Nat} (h : kdR T a b l) (h1 : a' ≤ a) (h2 : b ≤ b') : kdR T a' b' l := fun t ht => by
  obtain ⟨x, y, z⟩ := h t ht
  exact ⟨by omega, by omega, z⟩
theorem kdR.app {a b : Nat} {l m : List Nat} (h : kdR T a b l) (g : kdR T a b m) : kdR T a b (l ++ m) := fun t ht => (List.mem_append.mp ht).elim (h t) (g t)
theorem kdR.one {a b t c' : Nat} (h : pKind T t = .inr c') (h1 : a ≤ t) (h2 : t < b) : kdR T a b [t] := fun x hx => by
  have e : x = t := by simpa using hx
  rw [e]
  exact ⟨h1, h2, c', h⟩
/-- what an E (from c on, KINDS from kq on) leaves: its orders, its KINDS; no more than e, f, g waits above what waits ahead -/
def gdE (T : TT) (c kq e f g : Nat) (y : PZ) : Prop := kdR T c y.1 y.2.2.1 ∧ ∀ (h : Nat) (p : List (Nat × Nat)) (q H P Q : Nat), h + e ≤ H → p.length + f ≤ P → q + g ≤ Q → scE H P Q y.2.2.2.1 (kq, h, p, q) ∧ fdE y.2.2.2.1 (kq, h, p, q) = (kq + y.2.2.1.length, h + 1, p, q + 1)
theorem gdE.mono {c kq e f g e' f' g' : Nat} {y : PZ} (h : gdE T c kq e f g y) (h1 : e ≤ e') (h2 : f ≤ f') (h3 : g ≤ g') : gdE T c kq e' f' g' y := ⟨h.1, fun a p q H P Q x1 x2 x3 => h.2 a p q H P Q (by omega) (by omega) (by omega)⟩
/-- while a sum is read: two E and their sign -/
theorem gdE.two {c kq e f g : Nat} {z w : PZ} {r : Row} (hz : gdE T c kq (e + 1) f (g + 1) z) (hw : gdE T (z.1 + 1) (kq + z.2.2.1.length) e f g w) (hc : c ≤ z.1) (hcw : z.1 < w.1) (hr : r.1 = 9) (he : 1 ≤ e) (hg : 1 ≤ g) : gdE T c kq (e + 1) f (g + 1) (w.1, 0, z.2.2.1 ++ w.2.2.1, z.2.2.2.1 ++ w.2.2.2.1 ++ [r], z.2.2.2.2 ++ w.2.2.2.2) := by
  refine ⟨(hz.1.mono (Nat.le_refl _) (by show z.1 ≤ w.1; omega)).app (hw.1.mono (by omega) (Nat.le_refl _)), fun h p q H P Q x1 x2 x3 => ?_⟩
  obtain ⟨a1, a2⟩ := hz.2 h p q H P Q (by omega) x2 (by omega)
  obtain ⟨b1, b2⟩ := hw.2 (h + 1) p (q + 1) H P Q (by omega) x2 (by omega)
  have nx : hxE r (kq + z.2.2.1.length + w.2.2.1.length, h + 1 + 1, p, q + 1 + 1) = (kq + z.2.2.1.length + w.2.2.1.length, h + 1, p, q + 1) := by
    unfold hxE
    rw [hr, if_neg (by decide), if_neg (by decide), if_pos rfl]
    rfl
  constructor
  · show scE H P Q (z.2.2.2.1 ++ w.2.2.2.1 ++ [r]) (kq, h, p, q)
    rw [scE_app, scE_app, a2]
    refine ⟨⟨a1, b1⟩, ?_⟩
    rw [fdE_app, a2, b2]
    refine ⟨⟨by rw [hr]; decide, fun x => by rw [hr] at x; exact absurd x (by decide), ?_⟩, trivial⟩
    rw [nx]
    refine ⟨?_, ?_, ?_, loE_9 hr ?_ ?_⟩ <;> dsimp only <;> omega
  · show fdE (z.2.2.2.1 ++ w.2.2.2.1 ++ [r]) (kq, h, p, q) = _
    rw [fdE_app, fdE_app, a2, b2]
    show hxE r _ = _
    rw [nx, List.length_append, Nat.add_assoc]
theorem pLoop_gd {sg : Int32 → Bool} {rd : Nat → Nat → PX} {kq c e f g : Nat} (he : 1 ≤ e) (hg : 1 ≤ g) (hr : ∀ c kq y, rd c kq = .inr y → c < y.1 ∧ gdE T c kq e f g y) : ∀ (k : Nat) (z y : PZ), c ≤ z.1 → gdE T c kq (e + 1) f (g + 1) z → pLoop T sg rd kq k z = .inr y → gdE T c kq (e + 1) f (g + 1) y
  | 0, z, y, hc, hz, h => by cases h; exact hz
  | k + 1, z, y, hc, hz, h => by
    unfold pLoop at h
    by_cases q : sg (T z.1).1 = true
    · rw [if_pos q] at h
      cases hd : rd (z.1 + 1) (kq + z.2.2.1.length) with
      | inl e => rw [hd] at h; cases h
      | inr w =>
        rw [hd] at h
        obtain ⟨w1, w2⟩ := hr _ _ _ hd
        exact pLoop_gd he hg hr k _ y (by show c ≤ w.1; omega) (gdE.two hz w2 hc (by omega) rfl he hg) h
    · rw [if_neg q] at h
      cases h
      exact hz
theorem gdE.row {c kq e f g : Nat} {z : PZ} {r : Row} {c' : Nat} {sh : Int32} (hz : gdE T c kq e f g z) (hc : z.1 ≤ c') (hr : r.1 = 10 ∨ r.1 = 30 ∨ r.1 = 8) (he : 1 ≤ e) (hg : 1 ≤ g) {ag : List (Nat × Nat)} : gdE T c kq e f g (c', sh, z.2.2.1, z.2.2.2.1 ++ [r], ag) := by
  have nx : ∀ x, hxE r x = x := by
    intro x
    unfold hxE
    rcases hr with hr | hr | hr <;> · rw [hr, if_neg (by decide), if_neg (by decide), if_neg (by decide), if_neg (by decide), if_neg (by decide), if_neg (by decide), if_neg (by decide)]
  refine ⟨hz.1.mono (Nat.le_refl _) hc, fun h p q H P Q x1 x2 x3 => ?_⟩
  obtain ⟨a1, a2⟩ := hz.2 h p q H P Q x1 x2 x3
  constructor
  · show scE H P Q (z.2.2.2.1 ++ [r]) (kq, h, p, q)
    rw [scE_app, a2]
    refine ⟨a1, ⟨by rcases hr with hr | hr | hr <;> · rw [hr]; decide, fun x => by rcases hr with hr | hr | hr <;> · rw [hr] at x; exact absurd x (by decide), ?_⟩, trivial⟩
    rw [nx]
    refine ⟨?_, ?_, ?_, loE_1 (by rcases hr with hr | hr | hr <;> · rw [hr]; decide) ?_ ?_⟩ <;> dsimp only <;> omega
  · show fdE (z.2.2.2.1 ++ [r]) (kq, h, p, q) = _
    rw [fdE_app, a2]
    show hxE r _ = _
    rw [nx]
/-- a call's orders, behind its object -/
def gdC (T : TT) (c kq e f g : Nat) (y : PZ) : Prop := kdR T c y.1 y.2.2.1 ∧ ∀ (h : Nat) (p : List (Nat × Nat)) (q H P Q : Nat), h + e ≤ H → p.length + 1 + f ≤ P → q + 6 + g ≤ Q → scE H P Q y.2.2.2.1 (kq, h + 1, p, q + 1) ∧ fdE y.2.2.2.1 (kq, h + 1, p, q + 1) = (kq + y.2.2.1.length, h + 1, p, q + 1)
theorem hx_11 {r : Row} (hr : r.1 = 11) (x : HS) : hxE r x = (x.1, x.2.1 - 1, (nN r.2.2.2.1, 0) :: x.2.2.1, x.2.2.2) := by
  unfold hxE
  rw [hr, if_neg (by decide), if_neg (by decide), if_neg (by decide), if_neg (by decide), if_pos rfl]
theorem hx_12 {r : Row} (hr : r.1 = 12) (x : HS) : hxE r x = (x.1, x.2.1 - 1, bump x.2.2.1, x.2.2.2) := by
  unfold hxE
  rw [hr, if_neg (by decide), if_neg (by decide), if_neg (by decide), if_neg (by decide), if_neg (by decide), if_pos rfl]
theorem hx_13 {r : Row} (hr : r.1 = 13) (x : HS) : hxE r x = (x.1, x.2.1 + 1, x.2.2.1.tail, x.2.2.2 - nN r.2.2.1) := by
  unfold hxE
  rw [hr, if_neg (by decide), if_neg (by decide), if_neg (by decide), if_neg (by decide), if_neg (by decide), if_neg (by decide), if_pos rfl]
theorem hx_14 {r : Row} (hr : r.1 = 14) (x : HS) : hxE r x = (x.1 + 1, x.2) := by
  unfold hxE
  rw [hr, if_neg (by decide), if_neg (by decide), if_neg (by decide), if_pos rfl]
theorem gdE.as {c kq e f g : Nat} {z : PZ} {r : Row} {c' : Nat} (hz : gdE T c kq e f g z) (hcz : c ≤ z.1) (hk : pKind T (z.1 + 1) = .inr c') (hr : r.1 = 14) (ha : r.2.2.1 = nI (kq + z.2.2.1.length)) (he : 1 ≤ e) (hg : 1 ≤ g) {ag : List (Nat × Nat)} {sh : Int32} : gdE T c kq e f g (c', sh, z.2.2.1 ++ [z.1 + 1], z.2.2.2.1 ++ [r], ag) := by
  have kl := pKind_len hk
  refine ⟨(hz.1.mono (Nat.le_refl _) (by show z.1 ≤ c'; omega)).app (kdR.one hk (by omega) (by show z.1 + 1 < c'; omega)), fun h p q H P Q x1 x2 x3 => ?_⟩
  obtain ⟨a1, a2⟩ := hz.2 h p q H P Q x1 x2 x3
  constructor
  · show scE H P Q (z.2.2.2.1 ++ [r]) (kq, h, p, q)
    rw [scE_app, a2]
    refine ⟨a1, ⟨by rw [hr]; decide, fun _ => ha, ?_⟩, trivial⟩
    rw [hx_14 hr]
    refine ⟨?_, ?_, ?_, loE_1 (Or.inr (Or.inr (Or.inr hr))) ?_ ?_⟩ <;> dsimp only <;> omega
  · show fdE (z.2.2.2.1 ++ [r]) (kq, h, p, q) = _
    rw [fdE_app, a2]
    show hxE r _ = _
    rw [hx_14 hr, List.length_append]
    rfl
theorem gdE.call {c kq e f g e0 f0 g0 : Nat} {z y : PZ} {sh : Int32} (hz : gdE T c kq e f g z) (hy : gdC T (z.1 + 2) (kq + z.2.2.1.length) e0 f0 g0 y) (hcz : c ≤ z.1) (hzy : z.1 ≤ y.1) (h1 : e0 ≤ e) (h2 : 1 + f0 ≤ f) (h3 : 6 + g0 ≤ g) {ag : List (Nat × Nat)} : gdE T c kq e f g (y.1, sh, z.2.2.1 ++ y.2.2.1, z.2.2.2.1 ++ y.2.2.2.1, ag) := by
  refine ⟨(hz.1.mono (Nat.le_refl _) hzy).app (hy.1.mono (by omega) (Nat.le_refl _)), fun h p q H P Q x1 x2 x3 => ?_⟩
  obtain ⟨a1, a2⟩ := hz.2 h p q H P Q x1 x2 x3
  obtain ⟨b1, b2⟩ := hy.2 h p q H P Q (by omega) (by omega) (by omega)
  constructor
  · show scE H P Q (z.2.2.2.1 ++ y.2.2.2.1) (kq, h, p, q)
    rw [scE_app, a2]
    exact ⟨a1, b1⟩
  · show fdE (z.2.2.2.1 ++ y.2.2.2.1) (kq, h, p, q) = _
    rw [fdE_app, a2, b2, List.length_append, Nat.add_assoc]
theorem pPost_gd {ra : Nat → Nat → PX} {kq c e f g e0 f0 g0 : Nat} (he : 1 ≤ e) (hg : 1 ≤ g) (hr : ∀ c kq y, ra c kq = .inr y → c < y.1 ∧ gdC T c kq e0 f0 g0 y ∧ e0 ≤ e ∧ 1 + f0 ≤ f ∧ 6 + g0 ≤ g) : ∀ (k : Nat) (z y : PZ), c ≤ z.1 → gdE T c kq e f g z → pPost T ra kq k z = .inr y → gdE T c kq e f g y
  | 0, z, y, hc, hz, h => by cases h; exact hz
  | k + 1, z, y, hc, hz, h => by
    unfold pPost at h
    by_cases q : (T z.1).1 = 20
    · rw [if_pos q] at h
      cases hd : pKind T (z.1 + 1) with
      | inl e => rw [hd] at h; cases h
      | inr c' =>
        rw [hd] at h
        have kl := pKind_len hd
        exact pPost_gd he hg hr k _ y (by show c ≤ c'; omega) (gdE.as hz hc hd rfl rfl he hg) h
    · rw [if_neg q] at h
      by_cases g2 : (T z.1).1 = 46
      · rw [if_pos g2] at h
        by_cases g3 : (T (z.1 + 1)).1 = 3
        · rw [if_pos g3] at h
          by_cases g4 : (T (z.1 + 2)).1 = 40
          · rw [if_pos g4] at h
            cases hd : ra (z.1 + 2) (kq + z.2.2.1.length) with
            | inl e => rw [hd] at h; cases h
            | inr w =>
              rw [hd] at h
              obtain ⟨w1, w2, w3, w4, w5⟩ := hr _ _ _ hd
              exact pPost_gd he hg hr k _ y (by show c ≤ w.1; omega) (gdE.call hz w2 hc (by omega) w3 w4 w5) h
          · rw [if_neg g4] at h
            exact pPost_gd he hg hr k _ y (by show c ≤ z.1 + 2; omega) (gdE.row hz (by omega) (Or.inl rfl) he hg) h
        · rw [if_neg g3] at h; cases h
      · rw [if_neg g2] at h
        cases h
        exact hz
/-- ARGUMENTS: k of them are read -/
def gdA (T : TT) (c kq e f g k : Nat) (z : PZ) : Prop := kdR T c z.1 z.2.2.1 ∧ ∀ (n h : Nat) (p : List (Nat × Nat)) (q H P Q : Nat), k ≤ n → n ≤ 6 → h + e ≤ H → p.length + 1 + f ≤ P → q + 5 + g ≤ Q → scE H P Q z.2.2.2.1 (kq, h, (n, 0) :: p, q) ∧ fdE z.2.2.2.1 (kq, h, (n, 0) :: p, q) = (kq + z.2.2.1.length, h, (n, k) :: p, q + k)
theorem pArgs_gd {rv : Nat → Nat → PX} {kq c e f g : Nat} (hr : ∀ c kq y, rv c kq = .inr y → c < y.1 ∧ gdE T c kq e f g y) (hg : 1 ≤ g) : ∀ (n k : Nat) (z : PZ) (y : Nat × PZ), c ≤ z.1 → k ≤ 6 → gdA T c kq e f g k z → pArgs T rv kq n k z = .inr y → y.1 ≤ 6 ∧ gdA T c kq e f g y.1 y.2
  | 0, k, z, y, hc, hk, hz, h => by cases h
  | n + 1, k, z, y, hc, hk, hz, h => by
    unfold pArgs at h
    by_cases q : k = 6
    · rw [if_pos q] at h; cases h
    · rw [if_neg q] at h
      cases hd : rv z.1 (kq + z.2.2.1.length) with
      | inl e => rw [hd] at h; cases h
      | inr w =>
        rw [hd] at h
        obtain ⟨w1, w2⟩ := hr _ _ _ hd
        have nx : ∀ (r : Row), r.1 = 12 → r.2.2.1 = nI k → ∀ (c' : Nat) (sh : Int32) (ag : List (Nat × Nat)), w.1 ≤ c' → gdA T c kq e f g (k + 1) (c', sh, z.2.2.1 ++ w.2.2.1, z.2.2.2.1 ++ w.2.2.2.1 ++ [r], ag) := by
          intro r hr ha c' sh ag hc'
          refine ⟨(hz.1.mono (Nat.le_refl _) (by show z.1 ≤ c'; omega)).app (w2.1.mono hc hc'), fun n h p q H P Q y1 y2 x1 x2 x3 => ?_⟩
          obtain ⟨a1, a2⟩ := hz.2 n h p q H P Q (by omega) y2 x1 x2 x3
          obtain ⟨b1, b2⟩ := w2.2 h ((n, k) :: p) (q + k) H P Q x1 (by show p.length + 1 + f ≤ P; omega) (by omega)
          constructor
          · show scE H P Q (z.2.2.2.1 ++ w.2.2.2.1 ++ [r]) (kq, h, (n, 0) :: p, q)
            rw [scE_app, scE_app, a2]
            refine ⟨⟨a1, b1⟩, ?_⟩
            rw [fdE_app, a2, b2]
            refine ⟨⟨by rw [hr]; decide, fun x => by rw [hr] at x; exact absurd x (by decide), ?_⟩, trivial⟩
            rw [hx_12 hr]
            refine ⟨by dsimp only; omega, by show p.length + 1 ≤ P; omega, by dsimp only; omega, loE_12 hr ⟨by dsimp only; omega, n, k, p, rfl, by omega, y2, ha⟩⟩
          · show fdE (z.2.2.2.1 ++ w.2.2.2.1 ++ [r]) (kq, h, (n, 0) :: p, q) = _
            rw [fdE_app, fdE_app, a2, b2]
            show hxE r _ = _
            rw [hx_12 hr, List.length_append]
            show (kq + z.2.2.1.length + w.2.2.1.length, h + 1 - 1, (n, k + 1) :: p, q + k + 1) = _
            rw [show h + 1 - 1 = h by omega, Nat.add_assoc kq, Nat.add_assoc q]
        by_cases g2 : (T w.1).1 = 44
        · simp only [if_pos g2] at h
          exact pArgs_gd hr hg n (k + 1) _ y (by show c ≤ w.1 + 1; omega) (by omega) (nx _ rfl rfl _ _ _ (by omega)) h
        · simp only [if_neg g2] at h
          by_cases g3 : (T w.1).1 = 41
          · simp only [if_pos g3] at h
            cases h
            exact ⟨by show k + 1 ≤ 6; omega, nx _ rfl rfl _ _ _ (by omega)⟩
          · simp only [if_neg g3] at h; cases h
end MJA88
end
section
/-! ===== the orders of every E ===== -/
section MJA89
variable {T : TT} {M H P Q : Nat}
theorem gdE.atom {c kq e f g c' : Nat} {sh : Int32} {r : Row} (hr : r.1 = 3 ∨ r.1 = 4 ∨ r.1 = 5 ∨ r.1 = 6) (he : 1 ≤ e) (hg : 1 ≤ g) {ag : List (Nat × Nat)} : gdE T c kq e f g (c', sh, [], [r], ag) := by
  have nx : ∀ x, hxE r x = (x.1, x.2.1 + 1, x.2.2.1, x.2.2.2 + 1) := fun x => by unfold hxE; rw [if_pos hr]
  refine ⟨kdR.nil, fun h p q H P Q x1 x2 x3 => ⟨⟨⟨?_, fun x => ?_, ?_⟩, trivial⟩, ?_⟩⟩
  · rcases hr with e | e | e | e <;> · rw [e]; decide
  · rcases hr with e | e | e | e <;> · rw [e] at x; exact absurd x (by decide)
  · rw [nx]
    refine ⟨?_, ?_, ?_, loE_0 (by rcases hr with e | e | e | e <;> · rw [e]; decide)⟩ <;> dsimp only <;> omega
  · show hxE r _ = _
    rw [nx]
    rfl
theorem gdE.make {c kq e f g c' : Nat} {sh : Int32} {r : Row} {t : Nat} (hk : pKind T t = .inr c') (hc : c ≤ t) (hr : r.1 = 7) (ha : r.2.2.1 = nI kq) (he : 1 ≤ e) (hg : 1 ≤ g) {ag : List (Nat × Nat)} : gdE T c kq e f g (c', sh, [t], [r], ag) := by
  have nx : ∀ x, hxE r x = (x.1 + 1, x.2.1 + 1, x.2.2.1, x.2.2.2 + 1) := fun x => by unfold hxE; rw [hr, if_neg (by decide), if_pos rfl]
  have kl := pKind_len hk
  refine ⟨kdR.one hk hc (by show t < c'; omega), fun h p q H P Q x1 x2 x3 => ⟨⟨⟨by rw [hr]; decide, fun _ => ha, ?_⟩, trivial⟩, ?_⟩⟩
  · rw [nx]
    refine ⟨?_, ?_, ?_, loE_0 (by rw [hr]; decide)⟩ <;> dsimp only <;> omega
  · show hxE r _ = _
    rw [nx]
    rfl
theorem gdC.mk {c kq e f g n c' : Nat} {sh : Int32} {ks : List Nat} {os : List Row} {ra rc : Row} {ag ag' : List (Nat × Nat)} (hz : gdA T (c + 1) kq e f g n (c', sh, ks, os, ag')) (hra : ra.1 = 11) (hrb : ra.2.2.2.1 = nI n) (hrc : rc.1 = 13) (hn : rc.2.2.1 = nI n) (h6 : n ≤ 6) (he : 1 ≤ e) (hg : 1 ≤ g) : gdC T c kq e f g (c', 3, ks, ra :: (os ++ [rc]), ag) := by
  refine ⟨hz.1.mono (by omega) (Nat.le_refl _), fun h p q H P Q x1 x2 x3 => ?_⟩
  obtain ⟨a1, a2⟩ := hz.2 n h p (q + 1) H P Q (Nat.le_refl _) h6 x1 (by omega) (by omega)
  have n1 : hxE ra (kq, h + 1, p, q + 1) = (kq, h, (n, 0) :: p, q + 1) := by rw [hx_11 hra, hrb, nN_nI (by omega)]; rfl
  have n2 : hxE rc (kq + ks.length, h, (n, n) :: p, q + 1 + n) = (kq + ks.length, h + 1, p, q + 1) := by
    rw [hx_13 hrc, hn, nN_nI (by omega)]
    dsimp only
    rw [show q + 1 + n - n = q + 1 by omega]
    rfl
  have a2' : fdE os (kq, h, (n, 0) :: p, q + 1) = (kq + ks.length, h, (n, n) :: p, q + 1 + n) := a2
  constructor
  · refine ⟨⟨by rw [hra]; decide, fun x => by rw [hra] at x; exact absurd x (by decide), ?_⟩, ?_⟩
    · rw [n1]
      refine ⟨by dsimp only; omega, by show p.length + 1 ≤ P; omega, by dsimp only; omega, loE_11 hra (by dsimp only; omega) (by dsimp only; omega) ⟨n, h6, hrb⟩⟩
    · rw [n1]
      show scE H P Q (os ++ [rc]) _
      rw [scE_app, a2']
      refine ⟨a1, ⟨by rw [hrc]; decide, fun x => by rw [hrc] at x; exact absurd x (by decide), ?_⟩, trivial⟩
      rw [n2]
      refine ⟨by dsimp only; omega, by dsimp only; omega, by dsimp only; omega, loE_13 hrc ⟨n, p, rfl, hn, h6, by dsimp only; omega⟩⟩
  · show fdE (os ++ [rc]) (hxE ra (kq, h + 1, p, q + 1)) = _
    rw [n1, fdE_app, a2']
    exact n2
theorem prE_gd : ∀ (f tag o c kq : Nat) (y : PZ), o ≤ 12 → prE T M f tag o c kq = .inr y → (tag ≤ 5 → gdE T c kq (1 + 3 * (12 - o) + (3 - tag)) (12 - o) (1 + 9 * (12 - o) + (3 - tag)) y) ∧ (tag = 6 → o ≤ 11 ∧ gdC T c kq (1 + 3 * (12 - o)) (11 - o) (4 + 9 * (11 - o)) y) := by
  intro f
  induction f with
  | zero => intro tag o c kq y _ h; cases h
  | succ f ih =>
    intro tag o c kq y ho h
    refine ⟨fun ht => ?_, fun ht => ?_⟩
    · match tag, ht with
      | 0, _ =>
        rw [prE_0] at h
        cases hd : prE T M f 1 o c kq with
        | inl e => rw [hd] at h; cases h
        | inr z =>
          rw [hd] at h
          have hz := (ih 1 o c kq z ho hd).1 (by omega)
          have lz := (prE_ag f 1 o c kq z (by omega) hd).1
          by_cases g : isCmp (T z.1).1 = true
          · simp only [if_pos g] at h
            cases hd2 : prE T M f 1 o (z.1 + 1) (kq + z.2.2.1.length) with
            | inl e => rw [hd2] at h; cases h
            | inr w =>
              rw [hd2] at h
              have hw := (ih 1 o _ _ w ho hd2).1 (by omega)
              have lw := (prE_ag f 1 o _ _ w (by omega) hd2).1
              cases h
              exact gdE.two (hz.mono (by omega) (Nat.le_refl _) (by omega)) hw (by omega) (by omega) rfl (by omega) (by omega)
          · simp only [if_neg g] at h
            cases h
            exact hz.mono (by omega) (Nat.le_refl _) (by omega)
      | 1, _ =>
        rw [prE_1] at h
        cases hd : prE T M f 2 o c kq with
        | inl e => rw [hd] at h; cases h
        | inr z =>
          rw [hd] at h
          have hz := (ih 2 o c kq z ho hd).1 (by omega)
          have lz := (prE_ag f 2 o c kq z (by omega) hd).1
          exact pLoop_gd (by omega) (by omega) (fun c kq y hy => ⟨(prE_ag f 2 o c kq y (by omega) hy).1, (ih 2 o c kq y ho hy).1 (by omega)⟩) M z y (by omega) (hz.mono (by omega) (Nat.le_refl _) (by omega)) h
      | 2, _ =>
        rw [prE_2] at h
        cases hd : prE T M f 3 o c kq with
        | inl e => rw [hd] at h; cases h
        | inr z =>
          rw [hd] at h
          have hz := (ih 3 o c kq z ho hd).1 (by omega)
          have lz := (prE_ag f 3 o c kq z (by omega) hd).1
          exact pLoop_gd (by omega) (by omega) (fun c kq y hy => ⟨(prE_ag f 3 o c kq y (by omega) hy).1, (ih 3 o c kq y ho hy).1 (by omega)⟩) M z y (by omega) (hz.mono (by omega) (Nat.le_refl _) (by omega)) h
      | 3, _ =>
        rw [prE_3] at h
        by_cases g : (T c).1 = 45
        · rw [if_pos g] at h
          by_cases g2 : o = 12
          · rw [if_pos g2] at h; cases h
          · rw [if_neg g2] at h
            cases hd : prE T M f 3 (o + 1) (c + 1) kq with
            | inl e => rw [hd] at h; cases h
            | inr z =>
              rw [hd] at h
              have hz := (ih 3 (o + 1) (c + 1) kq z (by omega) hd).1 (by omega)
              cases h
              have hz' : gdE T c kq (1 + 3 * (12 - o) + (3 - 3)) (12 - o) (1 + 9 * (12 - o) + (3 - 3)) z := ⟨hz.1.mono (by omega) (Nat.le_refl _), (hz.mono (by omega) (by omega) (by omega)).2⟩
              exact gdE.row hz' (Nat.le_refl _) (Or.inr (Or.inr rfl)) (by omega) (by omega)
        · rw [if_neg g] at h
          exact (ih 4 o c kq y ho h).1 (by omega)
      | 4, _ =>
        rw [prE_4] at h
        cases hd : prE T M f 5 o c kq with
        | inl e => rw [hd] at h; cases h
        | inr z =>
          rw [hd] at h
          have hz := (ih 5 o c kq z ho hd).1 (by omega)
          have lz := (prE_ag f 5 o c kq z (by omega) hd).1
          exact pPost_gd (e0 := 1 + 3 * (12 - o)) (f0 := 11 - o) (g0 := 4 + 9 * (11 - o)) (by omega) (by omega) (fun c kq y hy => by
            obtain ⟨o11, gc⟩ := (ih 6 o c kq y ho hy).2 rfl
            exact ⟨(prE_ag f 6 o c kq y (by omega) hy).1, gc, by omega, by omega, by omega⟩) M z y (by omega) hz h
      | 5, _ =>
        rw [prE_5] at h
        unfold pAtom at h
        by_cases k3 : (T c).1 = 3
        · rw [if_pos k3] at h; cases h; exact gdE.atom (Or.inr (Or.inr (Or.inr rfl))) (by omega) (by omega)
        rw [if_neg k3] at h
        by_cases k4 : (T c).1 = 4
        · rw [if_pos k4] at h; cases h; exact gdE.atom (Or.inl rfl) (by omega) (by omega)
        rw [if_neg k4] at h
        by_cases k11 : (T c).1 = 11
        · rw [if_pos k11] at h; cases h; exact gdE.atom (Or.inr (Or.inl rfl)) (by omega) (by omega)
        rw [if_neg k11] at h
        by_cases k12 : (T c).1 = 12
        · rw [if_pos k12] at h; cases h; exact gdE.atom (Or.inr (Or.inr (Or.inl rfl))) (by omega) (by omega)
        rw [if_neg k12] at h
        by_cases k14 : (T c).1 = 14
        · rw [if_pos k14] at h
          cases hd : pKind T (c + 1) with
          | inl e => rw [hd] at h; cases h
          | inr c' =>
            rw [hd] at h
            cases h
            exact gdE.make hd (by omega) rfl rfl (by omega) (by omega)
        rw [if_neg k14] at h
        by_cases k40 : (T c).1 = 40
        · rw [if_pos k40] at h
          by_cases g2 : o = 12
          · rw [if_pos g2] at h; cases h
          · rw [if_neg g2] at h
            cases hd : prE T M f 0 (o + 1) (c + 1) kq with
            | inl e => rw [hd] at h; cases h
            | inr z =>
              rw [hd] at h
              have hz := (ih 0 (o + 1) (c + 1) kq z (by omega) hd).1 (by omega)
              by_cases g3 : (T z.1).1 = 41
              · simp only [if_pos g3] at h
                cases h
                have hz' : gdE T c kq (1 + 3 * (12 - o) + (3 - 5)) (12 - o) (1 + 9 * (12 - o) + (3 - 5)) z := ⟨hz.1.mono (by omega) (Nat.le_refl _), (hz.mono (by omega) (by omega) (by omega)).2⟩
                exact gdE.row hz' (by omega) (Or.inr (Or.inl rfl)) (by omega) (by omega)
              · simp only [if_neg g3] at h; cases h
        · rw [if_neg k40] at h; cases h
    · subst ht
      rw [prE_6] at h
      unfold pCall at h
      by_cases g2 : o = 12
      · rw [if_pos g2] at h; cases h
      · rw [if_neg g2] at h
        refine ⟨by omega, ?_⟩
        by_cases g3 : (T (c + 1)).1 = 41
        · rw [if_pos g3] at h
          cases h
          have h0 : gdA T (c + 1) kq (1 + 3 * (12 - o)) (11 - o) (4 + 9 * (11 - o)) 0 (c + 2, 0, [], [], []) := ⟨kdR.nil, fun n h p q H P Q _ _ _ _ _ => ⟨trivial, rfl⟩⟩
          exact gdC.mk (os := []) h0 rfl rfl rfl rfl (by omega) (by omega) (by omega)
        · rw [if_neg g3] at h
          cases hd : pArgs T (prE T M f 0 (o + 1)) kq 7 0 (c + 1, 0, [], [], []) with
          | inl e => rw [hd] at h; cases h
          | inr w =>
            rw [hd] at h
            have ha := pArgs_gd (T := T) (c := c + 1) (kq := kq) (e := 1 + 3 * (12 - o)) (f := 11 - o) (g := 4 + 9 * (11 - o)) (fun c kq y hy => ⟨(prE_ag f 0 (o + 1) c kq y (by omega) hy).1, ((ih 0 (o + 1) c kq y (by omega) hy).1 (by omega)).mono (by omega) (by omega) (by omega)⟩) (by omega) 7 0 (c + 1, 0, [], [], []) w (Nat.le_refl _) (by omega) ⟨kdR.nil, fun n h p q H P Q _ _ _ _ _ => ⟨trivial, rfl⟩⟩ hd
            cases h
            exact gdC.mk ha.2 rfl rfl rfl rfl ha.1 (by omega) (by omega)
theorem prV_gd {o c kq : Nat} {y : PZ} (ho : o ≤ 12) (h : prV T M o c kq = .inr y) : gdE T c kq 40 12 112 y := ((prE_gd 100 0 o c kq y ho h).1 (by omega)).mono (by omega) (by omega) (by omega)
end MJA89
end
section
/-! ===== the orders of STATEMENTS: told VARIABLES, what is left of =, KINDS ===== -/
/-- an E that is a FIELD ends with the FIELD's order -/
def sh2 (z : PZ) : Prop := z.2.1 = 2 → ∃ b r, z.2.2.2.1 = b ++ [r] ∧ r.1 = 10
section MJA90A
variable {T : TT} {M : Nat}
theorem pLoop_s2 {sg : Int32 → Bool} {rd : Nat → Nat → PX} {kq : Nat} : ∀ (k : Nat) (z y : PZ), sh2 z → pLoop T sg rd kq k z = .inr y → sh2 y
  | 0, z, y, hz, h => by cases h; exact hz
  | k + 1, z, y, hz, h => by
    unfold pLoop at h
    by_cases q : sg (T z.1).1 = true
    · rw [if_pos q] at h
      cases hd : rd (z.1 + 1) (kq + z.2.2.1.length) with
      | inl e => rw [hd] at h; cases h
      | inr w => rw [hd] at h; exact pLoop_s2 k _ y (fun e => absurd (show (0 : Int32) = 2 from e) (by decide)) h
    · rw [if_neg q] at h; cases h; exact hz
theorem pPost_s2 {ra : Nat → Nat → PX} {kq : Nat} : ∀ (k : Nat) (z y : PZ), sh2 z → pPost T ra kq k z = .inr y → sh2 y
  | 0, z, y, hz, h => by cases h; exact hz
  | k + 1, z, y, hz, h => by
    unfold pPost at h
    by_cases q : (T z.1).1 = 20
    · rw [if_pos q] at h
      cases hd : pKind T (z.1 + 1) with
      | inl e => rw [hd] at h; cases h
      | inr c' => rw [hd] at h; exact pPost_s2 k _ y (fun e => absurd (show (0 : Int32) = 2 from e) (by decide)) h
    · rw [if_neg q] at h
      by_cases g2 : (T z.1).1 = 46
      · rw [if_pos g2] at h
        by_cases g3 : (T (z.1 + 1)).1 = 3
        · rw [if_pos g3] at h
          by_cases g4 : (T (z.1 + 2)).1 = 40
          · rw [if_pos g4] at h
            cases hd : ra (z.1 + 2) (kq + z.2.2.1.length) with
            | inl e => rw [hd] at h; cases h
            | inr w => rw [hd] at h; exact pPost_s2 k _ y (fun e => absurd (show (3 : Int32) = 2 from e) (by decide)) h
          · rw [if_neg g4] at h
            exact pPost_s2 k _ y (fun _ => ⟨_, _, rfl, rfl⟩) h
        · rw [if_neg g3] at h; cases h
      · rw [if_neg g2] at h; cases h; exact hz
theorem prE_s2 : ∀ (f tag o c kq : Nat) (y : PZ), tag ≤ 5 → prE T M f tag o c kq = .inr y → sh2 y := by
  intro f
  induction f with
  | zero => intro tag o c kq y _ h; cases h
  | succ f ih =>
    intro tag o c kq y ht h
    have no : ∀ {c' : Nat} {ks : List Nat} {os : List Row} {ag : List (Nat × Nat)}, sh2 (c', 0, ks, os, ag) := fun e => absurd (show (0 : Int32) = 2 from e) (by decide)
    match tag, ht with
    | 0, _ =>
      rw [prE_0] at h
      cases hd : prE T M f 1 o c kq with
      | inl e => rw [hd] at h; cases h
      | inr z =>
        rw [hd] at h
        by_cases g : isCmp (T z.1).1 = true
        · simp only [if_pos g] at h
          cases hd2 : prE T M f 1 o (z.1 + 1) (kq + z.2.2.1.length) with
          | inl e => rw [hd2] at h; cases h
          | inr w => rw [hd2] at h; cases h; exact no
        · simp only [if_neg g] at h
          have hz := ih 1 o c kq z (by omega) hd
          cases h
          exact hz
    | 1, _ =>
      rw [prE_1] at h
      cases hd : prE T M f 2 o c kq with
      | inl e => rw [hd] at h; cases h
      | inr z => rw [hd] at h; exact pLoop_s2 M z y (ih 2 o c kq z (by omega) hd) h
    | 2, _ =>
      rw [prE_2] at h
      cases hd : prE T M f 3 o c kq with
      | inl e => rw [hd] at h; cases h
      | inr z => rw [hd] at h; exact pLoop_s2 M z y (ih 3 o c kq z (by omega) hd) h
    | 3, _ =>
      rw [prE_3] at h
      by_cases g : (T c).1 = 45
      · rw [if_pos g] at h
        by_cases g2 : o = 12
        · rw [if_pos g2] at h; cases h
        · rw [if_neg g2] at h
          cases hd : prE T M f 3 (o + 1) (c + 1) kq with
          | inl e => rw [hd] at h; cases h
          | inr z => rw [hd] at h; cases h; exact no
      · rw [if_neg g] at h
        exact ih 4 o c kq y (by omega) h
    | 4, _ =>
      rw [prE_4] at h
      cases hd : prE T M f 5 o c kq with
      | inl e => rw [hd] at h; cases h
      | inr z => rw [hd] at h; exact pPost_s2 M z y (ih 5 o c kq z (by omega) hd) h
    | 5, _ =>
      rw [prE_5] at h
      unfold pAtom at h
      by_cases k3 : (T c).1 = 3
      · rw [if_pos k3] at h; cases h; exact fun e => absurd (show (1 : Int32) = 2 from e) (by decide)
      rw [if_neg k3] at h
      by_cases k4 : (T c).1 = 4
      · rw [if_pos k4] at h; cases h; exact no
      rw [if_neg k4] at h
      by_cases k11 : (T c).1 = 11
      · rw [if_pos k11] at h; cases h; exact no
      rw [if_neg k11] at h
      by_cases k12 : (T c).1 = 12
      · rw [if_pos k12] at h; cases h; exact no
      rw [if_neg k12] at h
      by_cases k14 : (T c).1 = 14
      · rw [if_pos k14] at h
        cases hd : pKind T (c + 1) with
        | inl e => rw [hd] at h; cases h
        | inr c' => rw [hd] at h; cases h; exact no
      rw [if_neg k14] at h
      by_cases k40 : (T c).1 = 40
      · rw [if_pos k40] at h
        by_cases g2 : o = 12
        · rw [if_pos g2] at h; cases h
        · rw [if_neg g2] at h
          cases hd : prE T M f 0 (o + 1) (c + 1) kq with
          | inl e => rw [hd] at h; cases h
          | inr z =>
            rw [hd] at h
            by_cases g3 : (T z.1).1 = 41
            · simp only [if_pos g3] at h; cases h; exact no
            · simp only [if_neg g3] at h; cases h
      · rw [if_neg k40] at h; cases h
end MJA90A
/-- orders of an E -/
def isE (r : Row) : Prop := r.1 = 3 ∨ r.1 = 4 ∨ r.1 = 5 ∨ r.1 = 6 ∨ r.1 = 7 ∨ r.1 = 8 ∨ r.1 = 9 ∨ r.1 = 10 ∨ r.1 = 11 ∨ r.1 = 12 ∨ r.1 = 13 ∨ r.1 = 14 ∨ r.1 = 30
/-- KINDS, what waits; told; where what is left of = stands; is one being told; depth -/
abbrev WS : Type := HS × Nat × Nat × Bool × Nat
def nxW (r : Row) (i : Nat) (x : WS) : WS :=
  if r.1 = 15 then ((x.1.1, x.1.2.1 + 1, x.1.2.2), x.2.1, i, x.2.2.2)
  else if r.1 = 16 then (x.1, x.2.1, i, x.2.2.2)
  else if r.1 = 17 then ((x.1.1, x.1.2.1 - 2, x.1.2.2.1, x.1.2.2.2 - 1), x.2)
  else if r.1 = 18 then ((x.1.1, x.1.2.1 - 2, x.1.2.2.1, x.1.2.2.2 - 2), x.2)
  else if r.1 = 19 then ((if r.2.2.1 = -1 then x.1.1 else x.1.1 + 1, x.1.2), x.2.1, x.2.2.1, true, x.2.2.2.2)
  else if r.1 = 20 then ((x.1.1, x.1.2.1 - 1, x.1.2.2.1, x.1.2.2.2 - 1), x.2.1 + 1, x.2.2.1, false, x.2.2.2.2)
  else if r.1 = 21 ∨ r.1 = 24 ∨ r.1 = 28 ∨ r.1 = 25 then ((x.1.1, x.1.2.1 - 1, x.1.2.2.1, x.1.2.2.2 - 1), x.2)
  else if r.1 = 1 ∨ r.1 = 2 ∨ r.1 = 22 ∨ r.1 = 23 then x
  else if r.1 = 26 then (x.1, x.2.1, x.2.2.1, x.2.2.2.1, x.2.2.2.2 + 1)
  else if r.1 = 27 then (x.1, x.2.1, x.2.2.1, x.2.2.2.1, x.2.2.2.2 - 1)
  else (hxE r x.1, x.2)
/-- an order in its place -/
def okW (r : Row) (x : WS) : Prop := (okEr 60 20 120 r x.1) ∨ (r.1 = 15 ∧ x.1.2.1 ≤ 50) ∨ (r.1 = 16 ∧ 1 ≤ x.1.2.1 ∧ 1 ≤ x.1.2.2.2) ∨ ((r.1 = 17 ∧ 1 ≤ x.1.2.2.2 ∨ r.1 = 18 ∧ 2 ≤ x.1.2.2.2) ∧ 2 ≤ x.1.2.1 ∧ r.2.2.1 = nI x.2.2.1) ∨ (r.1 = 19 ∧ x.2.2.2.1 = false ∧ x.2.1 < 16 ∧ (r.2.2.1 = -1 ∨ (¬ r.2.2.1 = -1 ∧ r.2.2.1 = nI x.1.1))) ∨ (r.1 = 20 ∧ x.2.2.2.1 = true ∧ x.2.1 < 16 ∧ r.2.2.1 = nI x.2.1 ∧ 1 ≤ x.1.2.1 ∧ 1 ≤ x.1.2.2.2) ∨ ((r.1 = 21 ∨ r.1 = 24 ∨ r.1 = 28 ∨ r.1 = 25) ∧ (r.1 = 28 → ¬ r.2.2.1 = 0) ∧ 1 ≤ x.1.2.1 ∧ 1 ≤ x.1.2.2.2) ∨ (r.1 = 1 ∨ r.1 = 2 ∨ r.1 = 22 ∨ r.1 = 23) ∨ (r.1 = 26 ∧ x.2.2.2.1 = false) ∨ (r.1 = 27 ∧ x.2.2.2.1 = false ∧ 1 ≤ x.2.2.2.2)
theorem okW.e {r : Row} {x : WS} (h0 : okEr 60 20 120 r x.1) : okW r x := Or.inl h0
theorem okW.l {r : Row} {x : WS} (h0 : r.1 = 15) (h1 : x.1.2.1 ≤ 50) : okW r x := Or.inr (Or.inl ⟨h0, h1⟩)
theorem okW.f {r : Row} {x : WS} (h0 : r.1 = 16) (h1 : 1 ≤ x.1.2.1) (h2 : 1 ≤ x.1.2.2.2) : okW r x := Or.inr (Or.inr (Or.inl ⟨h0, h1, h2⟩))
theorem okW.p {r : Row} {x : WS} (h0 : r.1 = 17 ∧ 1 ≤ x.1.2.2.2 ∨ r.1 = 18 ∧ 2 ≤ x.1.2.2.2) (h2 : 2 ≤ x.1.2.1) (h1 : r.2.2.1 = nI x.2.2.1) : okW r x := Or.inr (Or.inr (Or.inr (Or.inl ⟨h0, h2, h1⟩)))
theorem okW.d {r : Row} {x : WS} (h0 : r.1 = 19) (h1 : x.2.2.2.1 = false) (h2 : x.2.1 < 16) (h3 : r.2.2.1 = -1 ∨ (¬ r.2.2.1 = -1 ∧ r.2.2.1 = nI x.1.1)) : okW r x := Or.inr (Or.inr (Or.inr (Or.inr (Or.inl ⟨h0, h1, h2, h3⟩))))
theorem okW.k {r : Row} {x : WS} (h0 : r.1 = 20) (h1 : x.2.2.2.1 = true) (h2 : x.2.1 < 16) (h3 : r.2.2.1 = nI x.2.1) (h4 : 1 ≤ x.1.2.1) (h5 : 1 ≤ x.1.2.2.2) : okW r x := Or.inr (Or.inr (Or.inr (Or.inr (Or.inr (Or.inl ⟨h0, h1, h2, h3, h4, h5⟩)))))
theorem okW.o {r : Row} {x : WS} (h0 : r.1 = 21 ∨ r.1 = 24 ∨ r.1 = 28 ∨ r.1 = 25) (h1 : r.1 = 28 → ¬ r.2.2.1 = 0) (h2 : 1 ≤ x.1.2.1) (h3 : 1 ≤ x.1.2.2.2) : okW r x := Or.inr (Or.inr (Or.inr (Or.inr (Or.inr (Or.inr (Or.inl ⟨h0, h1, h2, h3⟩))))))
theorem okW.n {r : Row} {x : WS} (h0 : r.1 = 1 ∨ r.1 = 2 ∨ r.1 = 22 ∨ r.1 = 23) : okW r x := Or.inr (Or.inr (Or.inr (Or.inr (Or.inr (Or.inr (Or.inr (Or.inl h0)))))))
theorem okW.b {r : Row} {x : WS} (h0 : r.1 = 26) (h1 : x.2.2.2.1 = false) : okW r x := Or.inr (Or.inr (Or.inr (Or.inr (Or.inr (Or.inr (Or.inr (Or.inr (Or.inl ⟨h0, h1⟩))))))))
theorem okW.c {r : Row} {x : WS} (h0 : r.1 = 27) (h1 : x.2.2.2.1 = false) (h2 : 1 ≤ x.2.2.2.2) : okW r x := Or.inr (Or.inr (Or.inr (Or.inr (Or.inr (Or.inr (Or.inr (Or.inr (Or.inr (⟨h0, h1, h2⟩)))))))))
def sdW : List Row → Nat → WS → Prop
  | [], _, _ => True
  | r :: l, i, x => okW r x ∧ sdW l (i + 1) (nxW r i x)
def fdW : List Row → Nat → WS → WS
  | [], _, x => x
  | r :: l, i, x => fdW l (i + 1) (nxW r i x)
section MJA90
variable {T : TT} {M : Nat}
theorem sdW_app : ∀ (a b : List Row) (i : Nat) (x : WS), sdW (a ++ b) i x ↔ sdW a i x ∧ sdW b (i + a.length) (fdW a i x)
  | [], b, i, x => ⟨fun h => ⟨trivial, h⟩, fun h => h.2⟩
  | r :: a, b, i, x => by
    show okW r x ∧ sdW (a ++ b) (i + 1) (nxW r i x) ↔ (okW r x ∧ sdW a (i + 1) (nxW r i x)) ∧ sdW b (i + (r :: a).length) (fdW a (i + 1) (nxW r i x))
    rw [sdW_app a b, and_assoc, List.length_cons, show i + 1 + a.length = i + (a.length + 1) by omega]
theorem fdW_app : ∀ (a b : List Row) (i : Nat) (x : WS), fdW (a ++ b) i x = fdW b (i + a.length) (fdW a i x)
  | [], _, _, _ => rfl
  | r :: a, b, i, x => by
    show fdW (a ++ b) (i + 1) (nxW r i x) = _
    rw [fdW_app a b, List.length_cons, show i + 1 + a.length = i + (a.length + 1) by omega]
    rfl
theorem nxW_E {r : Row} (h : isE r) (i : Nat) (x : WS) : nxW r i x = (hxE r x.1, x.2) := by
  unfold nxW
  rcases h with h | h | h | h | h | h | h | h | h | h | h | h | h <;> · rw [h, if_neg (by decide), if_neg (by decide), if_neg (by decide), if_neg (by decide), if_neg (by decide), if_neg (by decide), if_neg (by decide), if_neg (by decide), if_neg (by decide), if_neg (by decide)]
theorem sc_EW : ∀ (l : List Row) (i : Nat) (h : HS) (x : Nat × Nat × Bool × Nat), scE 60 20 120 l h → sdW l i (h, x) ∧ fdW l i (h, x) = (fdE l h, x)
  | [], i, h, x, _ => ⟨trivial, rfl⟩
  | r :: l, i, h, x, hs => by
    have e := nxW_E hs.1.1 i (h, x)
    obtain ⟨a, b⟩ := sc_EW l (i + 1) (hxE r h) x hs.2
    refine ⟨⟨okW.e hs.1, ?_⟩, ?_⟩
    · rw [e]; exact a
    · show fdW l (i + 1) (nxW r i (h, x)) = _
      rw [e]
      exact b
/-- an E in a STATEMENT -/
theorem gdE.W {c kq i : Nat} {y : PZ} (hy : gdE T c kq 40 12 112 y) {h q : Nat} {p : List (Nat × Nat)} (h1 : h ≤ 2) (h2 : p.length ≤ 2) (h3 : q ≤ 2) (x : Nat × Nat × Bool × Nat) : sdW y.2.2.2.1 i ((kq, h, p, q), x) ∧ fdW y.2.2.2.1 i ((kq, h, p, q), x) = ((kq + y.2.2.1.length, h + 1, p, q + 1), x) := by
  obtain ⟨a, b⟩ := hy.2 h p q 60 20 120 (by omega) (by omega) (by omega)
  obtain ⟨a2, b2⟩ := sc_EW _ i (kq, h, p, q) x a
  exact ⟨a2, by rw [b2, b]⟩
/-- what STATEMENTS leave, e BLOCKS deeper -/
def gdQ (T : TT) (e c td kq i0 : Nat) (y : PB) : Prop := kdR T c y.1 y.2.2.1 ∧ (kq + y.2.2.1.length < 100000 → ∀ lx D, ∃ lx', sdW y.2.2.2.1 i0 ((kq, 0, [], 0), td, lx, false, D) ∧ fdW y.2.2.2.1 i0 ((kq, 0, [], 0), td, lx, false, D) = ((kq + y.2.2.1.length, 0, [], 0), y.2.1, lx', false, D + e))
def gdS (T : TT) (c td kq i0 : Nat) (y : PB) : Prop := gdQ T 0 c td kq i0 y
theorem nx_same {r : Row} (h : r.1 = 1 ∨ r.1 = 2 ∨ r.1 = 22 ∨ r.1 = 23) (i : Nat) (x : WS) : nxW r i x = x := by
  unfold nxW
  rcases h with h | h | h | h <;> · rw [h, if_neg (by decide), if_neg (by decide), if_neg (by decide), if_neg (by decide), if_neg (by decide), if_neg (by decide), if_neg (by decide), if_pos (by decide)]
theorem nx_pop {r : Row} (h : r.1 = 21 ∨ r.1 = 24 ∨ r.1 = 28 ∨ r.1 = 25) (i : Nat) (x : WS) : nxW r i x = ((x.1.1, x.1.2.1 - 1, x.1.2.2.1, x.1.2.2.2 - 1), x.2) := by
  unfold nxW
  rcases h with h | h | h | h <;> · rw [h, if_neg (by decide), if_neg (by decide), if_neg (by decide), if_neg (by decide), if_neg (by decide), if_neg (by decide), if_pos (by decide)]
end MJA90
end
