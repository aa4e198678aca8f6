/-! ===== the reference's judge of BLOCKS: fits, and how TYPES come ===== -/
/-- what a TYPE more changes -/
def oT (n : Nat) : mjSt3 → mjSt3 → Prop := offG (fun h j => (h = 97 ∧ j = 82) ∨ ((h = 155 ∨ h = 156) ∧ j = n) ∨ (h = 157 ∧ 5 * n ≤ j ∧ j < 5 * n + 5)) (fun _ _ => False)
section MJA94
variable {T : TT} {d N b k t c n m v u w p q : Nat} {ks : List Nat} {L : List CD} {s s' : mjSt3} {ti : Int32}
theorem nI_m2 {a : Nat} (h : a < 2 ^ 31) : ¬ nI a = -2 := fun e => nI_pos h (by rw [e]; decide)
/-- fits -/
theorem x_334 (Ac : ACY T N L) (J : RJ T N b ks L s) (A : ∀ x, x < L.length → ABr T L b s x) (hp : p < 200) (hq : q < 200) {al al' : Bool} (Y : TY1 L b s p t al) (Z : TY1 L b s q w al') : ∃ s', mjF (d + 3) 334 [.ref 97, .int (nI p), .int (nI q)] (mjW0 s) = some (some (.int (b2 (fitT T L t w))), mjW0 s') ∧ oUp s s' := by
  have hn := Ac.1
  have hb := J.b1
  have h16 := J.len
  have clo : ∀ k, vK L k → 16 * b + cK k < 2 ^ 31 := fun k hk => by have := hk.cl hn; omega
  rw [e_334]
  unfold f_334 b_334_0 b_334_20 b_334_63
  simp only [xg_97_79, wa_155 hp, wa_155 hq, Y.1, Z.1]
  match t, w, Y, Z with
  | 0, 0, _, _ => exact ⟨s, rfl, offG.rf⟩
  | 0, 1, _, _ => exact ⟨s, rfl, offG.rf⟩
  | 0, w + 2, _, Z =>
    refine ⟨s, ?_, offG.rf⟩
    rw [if_pos (show tyC b 0 = -1 from rfl), if_neg (show ¬ tyC b 0 = tyC b (w + 2) from fun e => nI_m1 (clo w Z.2.2.1) e.symm)]
    rfl
  | 1, 0, _, _ => exact ⟨s, rfl, offG.rf⟩
  | 1, 1, _, _ => exact ⟨s, rfl, offG.rf⟩
  | 1, w + 2, _, Z =>
    refine ⟨s, ?_, offG.rf⟩
    rw [if_neg (show ¬ tyC b 1 = -1 from (by decide : ¬ (-2 : Int32) = -1)), if_neg (show ¬ tyC b (w + 2) = -1 from nI_m1 (clo w Z.2.2.1)), if_pos (show tyC b 1 = -2 from rfl), if_pos (show tyC b 1 = -2 from rfl)]
    rfl
  | k + 2, 0, Y, _ =>
    refine ⟨s, ?_, offG.rf⟩
    rw [if_neg (show ¬ tyC b (k + 2) = -1 from nI_m1 (clo k Y.2.2.1)), if_pos (show tyC b 0 = -1 from rfl), if_neg (show ¬ tyC b (k + 2) = tyC b 0 from nI_m1 (clo k Y.2.2.1))]
    rfl
  | k + 2, 1, Y, _ =>
    refine ⟨s, ?_, offG.rf⟩
    rw [if_neg (show ¬ tyC b (k + 2) = -1 from nI_m1 (clo k Y.2.2.1)), if_neg (show ¬ tyC b 1 = -1 from (by decide : ¬ (-2 : Int32) = -1)), if_neg (show ¬ tyC b (k + 2) = -2 from nI_m2 (clo k Y.2.2.1)), if_pos (show tyC b 1 = -2 from rfl), if_neg (show ¬ tyC b (k + 2) = -2 from nI_m2 (clo k Y.2.2.1))]
    rfl
  | k + 2, w + 2, Y, Z =>
    have vk := Y.2.2.1
    have vw := Z.2.2.1
    have ck := vk.cl hn
    have cw := vw.cl hn
    rw [if_neg (show ¬ tyC b (k + 2) = -1 from nI_m1 (clo k vk)), if_neg (show ¬ tyC b (w + 2) = -1 from nI_m1 (clo w vw)), if_neg (show ¬ tyC b (k + 2) = -2 from nI_m2 (clo k vk)), if_neg (show ¬ tyC b (w + 2) = -2 from nI_m2 (clo w vw))]
    obtain ⟨s1, a1, a2, a3⟩ := x_329 (d := d + 1) hn hp Y
    have A1 : ∀ x, x < L.length → ABr T L b s1 x := fun x hx => a2.A (A x hx)
    obtain ⟨s2, v', j, b1, b2', b3, b4, b5, b6, b7⟩ := lq_334w (d := d) (p := q) Ac hq (w := cK w) (by omega) 16 mjN s1 k (by
      have := up16 Ac ck
      rw [show (16 : Nat) + 1 = 16 + 1 from rfl, upI_add, this]) (by have := mjN_v; omega) (oUp.J a2 J) A1 vk a3 (by rw [a2.r (by decide) (by decide) (by decide)]; exact Z.1)
    have J2 := oUp.J b2' (oUp.J a2 J)
    have o2 : oUp s s2 := a2.tr b2'
    have hO : ∀ i, i < nmL L (cK w) → s2.1 157 (5 * q + i) = oR (oK w i) := fun i hi => by rw [o2.r (by decide) (by decide) (by decide)]; exact Z.2.2.2 i hi
    have lo := fun g hg => lq_334o (p := q) J2 hq b4 b3 vw hO (mjF (d + 2)) (nmL L (cK v')) 0 mjN g (by omega) (by have := (vK.n5 hn (b4.cl hn)).2; have := mjN_v; omega) hg
    have h5 : s2.1 155 q = nI (16 * b + cK w) := by rw [o2.r (by decide) (by decide) (by decide)]; exact Z.1
    rw [xV_97, a1, bN_s, b1]
    unfold b_334_117 b_334_135
    rw [xg_97_95, b3.1, xg_97_79, wa_155 hq, h5]
    obtain ⟨cu1, cu2⟩ := chV_v hn j k v' vk b5
    have j16 : j < 16 := by
      by_cases g : j < 16
      · exact g
      · have := up16 Ac ck
        rw [show j = 16 + (j - 16) by omega, upI_add, this] at cu2
        cases cu2
    have st := chV_st (T := T) hn vk j
    rw [b5] at st
    cases hch : chn (nmL L) (abT T L) (cK k) j with
    | none => rw [hch] at st; cases st
    | some v0 =>
      rw [hch] at st
      have ev : v' = stand (nmL L) v0 k := Option.some.inj st
      have v0v := chn_v hn ck j v0 hch
      have ec0 : cK v' = cK v0 := by rw [ev, stand_c hn v0v]
      by_cases g : cK v' = cK w
      · rw [if_pos (by rw [g])]
        have l1 := lo true (fun _ => g)
        refine ⟨s2, l1.trans ?_, o2⟩
        have vw' : vwT (nmL L) (abT T L) (cK k) (cK w) = some v0 := by rw [← g, ec0]; exact vw_chn Ac ck hch j16
        have ef : fitT T L (k + 2) (w + 2) = decide (v' = w) := by
          show (match vwT (nmL L) (abT T L) (cK k) (cK w) with
            | some v => decide (stand (nmL L) v k = w)
            | none => false) = _
          rw [vw', ev]
        rw [ef, Bool.true_and]
        have iff : allR (fun i => decide (oK v' i = oK w i)) 0 (nmL L (cK v')) = true ↔ v' = w := by
          rw [allR_iff, vK_ext hn b4 vw]
          exact ⟨fun h => ⟨g, fun i hi => of_decide_eq_true (h i (by omega) (by omega))⟩, fun h i _ hi => decide_eq_true (h.2 i (by omega))⟩
        by_cases e : v' = w
        · rw [iff.mpr e, decide_eq_true e]
        · rw [decide_eq_false e, show allR (fun i => decide (oK v' i = oK w i)) 0 (nmL L (cK v')) = false by
            cases hA : allR (fun i => decide (oK v' i = oK w i)) 0 (nmL L (cK v')) with
            | false => rfl
            | true => exact absurd (iff.mp hA) e]
      · rw [if_neg (fun x => g (by have := b4.cl hn; have := (nI_eq (by omega) (by omega)).mp x; omega))]
        have l1 := lo false (fun e => by cases e)
        refine ⟨s2, l1.trans ?_, o2⟩
        have ef : fitT T L (k + 2) (w + 2) = false := by
          show (match vwT (nmL L) (abT T L) (cK k) (cK w) with
            | some v => decide (stand (nmL L) v k = w)
            | none => false) = _
          cases hv : vwT (nmL L) (abT T L) (cK k) (cK w) with
          | none => rfl
          | some x =>
            exfalso
            obtain ⟨i, hi⟩ := (vw_iff (a := cK w) Ac ck).mp (by rw [hv]; rfl)
            obtain ⟨y, y1, y2⟩ := chn_ex hn ck i _ hi
            have sy := chV_st (T := T) hn vk i
            rw [y1] at sy
            have ecy : cK (stand (nmL L) y k) = cK w := by rw [stand_c hn (chn_v hn ck i y y1), y2]
            by_cases gi : i < j
            · exact b6 i gi _ sy ecy
            · by_cases ge : i = j
              · rw [ge, b5] at sy
                exact g (by rw [Option.some.inj sy]; exact ecy)
              · have un : upT T L (cK v') = none := by unfold upT; rw [b7 g]; rfl
                rw [show i = j + (i - j - 1 + 1) by omega, upI_add, cu2] at hi
                have e1 : upI (upT T L) (i - j - 1 + 1) (cK v') = none := by
                  show (match upT T L (cK v') with
                    | none => none
                    | some y => upI (upT T L) (i - j - 1) y) = none
                  rw [un]
                dsimp only at hi
                rw [e1] at hi
                cases hi
        rw [ef, Bool.false_and]
/-- type -/
theorem x_324 (hn : n < 200) (h82 : s.1 97 82 = nI n) (ti : Int32) : ∃ s', mjF (d + 1) 324 [.ref 97, .int ti] (mjW0 s) = some (none, mjW0 s') ∧ oT n s s' ∧ s'.1 155 n = ti ∧ s'.1 156 n = 0 ∧ s'.1 97 82 = nI (n + 1) := by
  obtain ⟨s1, h1⟩ : ∃ z, z = uI s 155 (upd (s.1 155) n ti) := ⟨_, rfl⟩
  obtain ⟨s2, h2⟩ : ∃ z, z = uI s1 156 (upd (s1.1 156) n 0) := ⟨_, rfl⟩
  obtain ⟨s3, h3⟩ : ∃ z, z = uI s2 97 (upd (s2.1 97) 82 (nI (n + 1))) := ⟨_, rfl⟩
  have r1 : ∀ h, ¬ h = 155 → s1.1 h = s.1 h := fun h e => by rw [h1, uI_ne _ _ _ _ e]
  have r2 : ∀ h, ¬ h = 156 → s2.1 h = s1.1 h := fun h e => by rw [h2, uI_ne _ _ _ _ e]
  have r3 : ∀ h, ¬ h = 97 → s3.1 h = s2.1 h := fun h e => by rw [h3, uI_ne _ _ _ _ e]
  have o1 : oT n s s1 := by rw [h1]; exact offG.w (Or.inr (Or.inl ⟨Or.inl rfl, rfl⟩))
  have o2 : oT n s1 s2 := by rw [h2]; exact offG.w (Or.inr (Or.inl ⟨Or.inr rfl, rfl⟩))
  have o3 : oT n s2 s3 := by rw [h3]; exact offG.w (Or.inl ⟨rfl, rfl⟩)
  refine ⟨s3, ?_, (o1.tr o2).tr o3, ?_, ?_, ?_⟩
  · rw [e_324]
    unfold f_324 b_324_0
    rw [xg_97_79, xg_97_82, h82, ws_155 hn, ← h1, xg_97_80, xg_97_82, r1 97 (by decide), h82, ws_156 hn, ← h2, xg_97_82, r2 97 (by decide), r1 97 (by decide), h82, nI_1, xp_97_82, ← h3]
  · rw [r3 155 (by decide), r2 155 (by decide), h1, uI_same, upd_g, if_pos rfl]
  · rw [r3 156 (by decide), h2, uI_same, upd_g, if_pos rfl]
  · rw [h3, uI_same, upd_g, if_pos rfl]
theorem oT.r (o : oT n s s') {h : Nat} (hh : ¬ (h = 97 ∨ h = 155 ∨ h = 156 ∨ h = 157)) : s'.1 h = s.1 h := funext fun j => o.1 h j (by omega)
theorem L326_S (R : mjR) (n a : Nat) (b e : Int32) (hp : mjH) : L_326_20 R (n + 1) a b e hp = b_326_20 R (L_326_20 R n) a b e hp := rfl
theorem lq_326 (hn : HN T N L) (R : mjR) {kk : Nat} (hv : vK L kk) (hk : k < 1600) (h200 : n < 200) : ∀ (r i m : Nat) (s : mjSt3), i + r = 5 → r < m → s.1 97 82 = nI (n + 1) → s.1 138 k = nI (nmL L (cK kk)) → KRr b s k (nmL L (cK kk)) kk → (∀ x, x < i → x < nmL L (cK kk) → s.1 157 (5 * n + x) = oR (oK kk x)) → ∃ s', L_326_20 R m 97 (nI k) (nI i) (mjW0 s) = some (none, mjW0 s') ∧ oT n s s' ∧ s'.1 155 = s.1 155 ∧ s'.1 156 = s.1 156 ∧ s'.1 97 = s.1 97 ∧ ∀ x, x < nmL L (cK kk) → s'.1 157 (5 * n + x) = oR (oK kk x)
  | r, i, 0, s, e, hr, h82, h8, K, w => by omega
  | 0, i, m + 1, s, e, hr, h82, h8, K, w => by
    have n5 := (vK.n5 hn (hv.cl hn)).2
    refine ⟨s, ?_, offG.rf, rfl, rfl, rfl, fun x hx => w x (by omega) hx⟩
    rw [L326_S]
    unfold b_326_20
    rw [if_neg (nI_pos (by omega)), if_pos (show (5 : Int32) ≤ nI i from nI_le (a := 5) (by omega) (by omega))]
  | r + 1, i, m + 1, s, e, hr, h82, h8, K, w => by
    have n5 := (vK.n5 hn (hv.cl hn)).2
    have go : ∀ x : Int32, (i < nmL L (cK kk) → x = oR (oK kk i)) → L_326_20 R (m + 1) 97 (nI k) (nI i) (mjW0 s) = L_326_20 R m 97 (nI k) (nI (i + 1)) (mjW0 (uI s 157 (upd (s.1 157) (5 * n + i) x))) → ∃ s', L_326_20 R (m + 1) 97 (nI k) (nI i) (mjW0 s) = some (none, mjW0 s') ∧ oT n s s' ∧ s'.1 155 = s.1 155 ∧ s'.1 156 = s.1 156 ∧ s'.1 97 = s.1 97 ∧ ∀ x, x < nmL L (cK kk) → s'.1 157 (5 * n + x) = oR (oK kk x) := by
      intro x hx pre
      have r1 : ∀ h, ¬ h = 157 → (uI s 157 (upd (s.1 157) (5 * n + i) x)).1 h = s.1 h := fun h e => uI_ne _ _ _ _ e
      obtain ⟨s', b1, b2', b3, b4, b5, b6⟩ := lq_326 hn R hv hk h200 r (i + 1) m (uI s 157 (upd (s.1 157) (5 * n + i) x)) (by omega) (by omega) (by rw [r1 97 (by decide)]; exact h82) (by rw [r1 138 (by decide)]; exact h8) ⟨by rw [r1 139 (by decide)]; exact K.1, fun y hy => by rw [r1 142 (by decide)]; exact K.2 y hy⟩ (fun y hy hn' => by
        rw [uI_same, upd_g]
        by_cases e' : y = i
        · rw [if_pos (by rw [e']), hx (by omega), e']
        · rw [if_neg (by omega)]; exact w y (by omega) hn')
      have o1 : oT n s (uI s 157 (upd (s.1 157) (5 * n + i) x)) := offG.w (Or.inr (Or.inr ⟨rfl, by omega, by omega⟩))
      exact ⟨s', pre.trans b1, o1.tr b2', by rw [b3, r1 155 (by decide)], by rw [b4, r1 156 (by decide)], by rw [b5, r1 97 (by decide)], b6⟩
    by_cases g : i < nmL L (cK kk)
    · refine go _ (fun _ => rfl) ?_
      rw [L326_S]
      unfold b_326_20 b_326_67
      rw [if_neg (nI_pos (by omega)), if_neg (show ¬ (5 : Int32) ≤ nI i from nI_ge (b := 5) (by omega) (by decide)), xg_97_81, xg_97_82, h82, xg_97_49, wa_138 hk, h8, if_neg (nI_ge g (by omega)), xg_97_53, i5m, wa_142 (by omega), K.2 i g, i5s, ws_157 (by omega), nI_1]
    · refine go 0 (fun h => absurd h g) ?_
      rw [L326_S]
      unfold b_326_20 b_326_67
      rw [if_neg (nI_pos (by omega)), if_neg (show ¬ (5 : Int32) ≤ nI i from nI_ge (b := 5) (by omega) (by decide)), xg_97_81, xg_97_82, h82, xg_97_49, wa_138 hk, h8, if_pos (nI_le (by omega) (by omega)), i5s, ws_157 (by omega), nI_1]
/-- typeOf -/
theorem x_326 (hn : HN T N L) {ty : Nat} (K : TKr L b s ti ty) (h200 : n < 200) (h82 : s.1 97 82 = nI n) : ∃ s', mjF (d + 2) 326 [.ref 97, .int ti] (mjW0 s) = some (none, mjW0 s') ∧ oT n s s' ∧ TY1 L b s' n ty false ∧ s'.1 97 82 = nI (n + 1) := by
  have hmj := mjN_v
  match ty, K with
  | 0, K =>
    have e1 : ti = -1 := K
    obtain ⟨s1, a1, a2, a3, a4, a5⟩ := x_324 (d := d) h200 h82 (-1)
    refine ⟨s1, ?_, a2, ⟨a3, a4, trivial⟩, a5⟩
    rw [e_326]
    unfold f_326 b_326_0 b_326_15
    rw [e1, if_neg (by decide), xV_97, a1, bN_s, show mjN = 99999999 + 1 from rfl, L326_S]
    unfold b_326_20
    rw [if_pos (by decide)]
  | kk + 2, ⟨vk, k, h1, h2, h3, h4⟩ =>
    obtain ⟨s1, a1, a2, a3, a4, a5⟩ := x_324 (d := d) h200 h82 (nI (16 * b + cK kk))
    obtain ⟨s', b1, b2', b3, b4, b5, b6⟩ := lq_326 hn (mjF (d + 1)) vk h1 h200 5 0 mjN s1 (by omega) (by omega) a5 (by rw [a2.r (by decide)]; exact h3) ⟨by rw [a2.r (by decide)]; exact h4.1, fun y hy => by rw [a2.r (by decide)]; exact h4.2 y hy⟩ (fun x hx => by omega)
    refine ⟨s', ?_, a2.tr b2', ⟨by rw [b3, a3]; rfl, by rw [b4, a4]; rfl, vk, b6⟩, by rw [b5, a5]⟩
    rw [← b1, e_326]
    unfold f_326 b_326_0 b_326_15
    rw [h2, if_pos (nI_pos' (by omega)), xg_97_50, wa_139 h1, h4.1, xV_97, a1, bN_s]
    rfl
theorem x_318o (hv : vK L v) (hn : HN T N L) (U : UPo L s v) {o : Nat} (ho : o ≤ 6) (h5 : o < 5 → o < nmL L (cK v)) : mjF (d + 1) 318 [.ref 97, .int (oR o)] (mjW0 s) = some (some (.int (oR (if o < 5 then oK v o else o))), mjW0 s) := by
  have n5 := (vK.n5 hn (hv.cl hn)).2
  rw [e_318]
  unfold f_318 b_318_0
  by_cases g : o < 5
  · have e : oR o = nI o := by unfold oR; rw [if_neg (by omega), if_neg (by omega)]
    rw [if_pos g, e, if_neg (nI_pos (by omega)), xg_97_93, wa_165 (by omega), U o (h5 g)]
  · rw [if_neg g]
    have key : ∀ o, o < 7 → ¬ o < 5 → oR o < 0 := by decide
    rw [if_pos (key o (by omega) g)]
theorem L332_S (R : mjR) (n a : Nat) (b e : Int32) (hp : mjH) : L_332_7 R (n + 1) a b e hp = b_332_7 R (L_332_7 R n) a b e hp := rfl
theorem lq_332 (hn : HN T N L) {kk : Nat} (hk' : vK L kk) (hv : vK L v) (hk : k < 1600) (h200 : n < 200) (hnm : tyN L (cK v) (kk + 2)) : ∀ (r i m : Nat) (s : mjSt3), i + r = nmL L (cK kk) → r < m → UPo L s v → s.1 97 82 = nI (n + 1) → s.1 138 k = nI (nmL L (cK kk)) → KRr b s k (nmL L (cK kk)) kk → (∀ x, x < i → s.1 157 (5 * n + x) = oR (oK (stand (nmL L) kk v) x)) → ∃ s', L_332_7 (mjF (d + 1)) m 97 (nI k) (nI i) (mjW0 s) = some (none, mjW0 s') ∧ oT n s s' ∧ s'.1 155 = s.1 155 ∧ s'.1 156 = s.1 156 ∧ s'.1 97 = s.1 97 ∧ ∀ x, x < nmL L (cK kk) → s'.1 157 (5 * n + x) = oR (oK (stand (nmL L) kk v) x)
  | r, i, 0, s, e, hr, U, h82, h8, K, w => by omega
  | 0, i, m + 1, s, e, hr, U, h82, h8, K, w => by
    have n5 := (vK.n5 hn (hk'.cl hn)).2
    refine ⟨s, ?_, offG.rf, rfl, rfl, rfl, fun x hx => w x (by omega)⟩
    rw [L332_S]
    unfold b_332_7
    rw [if_neg (nI_pos (by omega)), xg_97_49, wa_138 hk, h8, if_pos (nI_le (by omega) (by omega))]
  | r + 1, i, m + 1, s, e, hr, U, h82, h8, K, w => by
    have n5 := (vK.n5 hn (hk'.cl hn)).2
    have hi : i < nmL L (cK kk) := by omega
    obtain ⟨z, hz⟩ : ∃ z, z = uI s 157 (upd (s.1 157) (5 * n + i) (oR (oK (stand (nmL L) kk v) i))) := ⟨_, rfl⟩
    have r1 : ∀ h, ¬ h = 157 → z.1 h = s.1 h := fun h e => by rw [hz]; exact uI_ne _ _ _ _ e
    obtain ⟨s', b1, b2', b3, b4, b5, b6⟩ := lq_332 hn hk' hv hk h200 hnm r (i + 1) m z (by omega) (by omega) (fun y hy => by rw [r1 165 (by decide)]; exact U y hy) (by rw [r1 97 (by decide)]; exact h82) (by rw [r1 138 (by decide)]; exact h8) ⟨by rw [r1 139 (by decide)]; exact K.1, fun y hy => by rw [r1 142 (by decide)]; exact K.2 y hy⟩ (fun y hy => by
      rw [hz, uI_same, upd_g]
      by_cases e' : y = i
      · rw [if_pos (by rw [e']), e']
      · rw [if_neg (by omega)]; exact w y (by omega))
    have o1 : oT n s z := by rw [hz]; exact offG.w (Or.inr (Or.inr ⟨rfl, by omega, by omega⟩))
    refine ⟨s', ?_, o1.tr b2', by rw [b3, r1 155 (by decide)], by rw [b4, r1 156 (by decide)], by rw [b5, r1 97 (by decide)], b6⟩
    rw [← b1, L332_S]
    unfold b_332_7
    rw [if_neg (nI_pos (by omega)), xg_97_49, wa_138 hk, h8, if_neg (nI_ge hi (by omega)), xg_97_81, xg_97_82, h82, xg_97_53, i5m, wa_142 (by omega), K.2 i hi, xV_97, x_318o hv hn U (hk'.ow hn i (by omega)) (hnm kk rfl i hi), bI_s, i5s, ws_157 (by omega), ← stand_o hn hk' hi, ← hz, nI_1]
/-- typeUnder -/
theorem x_332 (hn : HN T N L) {ty : Nat} (K : TKr L b s ti ty) (h200 : n < 200) (h82 : s.1 97 82 = nI n) (hv : vK L v) (U : UPo L s v) (hnm : tyN L (cK v) ty) : ∃ s', mjF (d + 3) 332 [.ref 97, .int ti] (mjW0 s) = some (none, mjW0 s') ∧ oT n s s' ∧ TY1 L b s' n (sty (nmL L) ty v) false ∧ s'.1 97 82 = nI (n + 1) := by
  have hmj := mjN_v
  obtain ⟨s1, a1, a2, a3, a4⟩ := x_326 (d := d) hn K h200 h82
  match ty, K, a3, hnm with
  | 0, K, a3, hnm =>
    have e1 : ti = -1 := K
    refine ⟨s1, ?_, a2, a3, a4⟩
    rw [e_332]
    unfold f_332 b_332_0
    rw [xV_97, a1, bN_s, e1, show mjN = 99999999 + 1 from rfl, L332_S]
    unfold b_332_7
    rw [if_pos (by decide)]
  | kk + 2, ⟨vk, k, h1, h2, h3, h4⟩, a3, hnm =>
    have n5 := (vK.n5 hn (vk.cl hn)).2
    obtain ⟨s', b1, b2', b3, b4, b5, b6⟩ := lq_332 (d := d + 1) hn vk hv h1 h200 hnm (nmL L (cK kk)) 0 mjN s1 (by omega) (by omega) (fun i hi => by rw [a2.r (by decide)]; exact U i hi) a4 (by rw [a2.r (by decide)]; exact h3) ⟨by rw [a2.r (by decide)]; exact h4.1, fun y hy => by rw [a2.r (by decide)]; exact h4.2 y hy⟩ (fun x hx => by omega)
    have ec : cK (stand (nmL L) kk v) = cK kk := stand_c hn vk
    refine ⟨s', ?_, a2.tr b2', ⟨?_, by rw [b4, a3.2.1], vK.stand hn vk hv, fun i hi => b6 i (by rw [← ec]; exact hi)⟩, by rw [b5, a4]⟩
    · rw [← b1, e_332]
      unfold f_332 b_332_0
      rw [xV_97, a1, bN_s, h2]
      rfl
    · rw [b3, a3.1]
      show nI (16 * b + cK kk) = nI (16 * b + cK (stand (nmL L) kk v))
      rw [ec]
end MJA94
