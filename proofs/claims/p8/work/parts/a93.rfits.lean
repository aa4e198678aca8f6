/-! ===== the reference's judge of BLOCKS: TYPES that wait; fits ===== -/
def tyC (b t : Nat) : Int32 := match t with
  | 0 => -1
  | 1 => -2
  | k + 2 => nI (16 * b + cK k)
/-- the OWNERS of TYPE t at place p -/
def TO1 (L : List CD) (s : mjSt3) (p t : Nat) : Prop := match t with
  | k + 2 => vK L k ∧ ∀ i, i < nmL L (cK k) → s.1 157 (5 * p + i) = oR (oK k i)
  | _ => True
def TY1 (L : List CD) (b : Nat) (s : mjSt3) (p t : Nat) (al : Bool) : Prop := s.1 155 p = tyC b t ∧ s.1 156 p = b2 al ∧ TO1 L s p t
/-- up holds OWNERS of KIND v, whatever CLASS is noted -/
def UPo (L : List CD) (s : mjSt3) (v : Nat) : Prop := ∀ i, i < nmL L (cK v) → s.1 165 i = oR (oK v i)
section MJA93
variable {T : TT} {d N b k t c n m v u w p : Nat} {ks : List Nat} {L : List CD} {s s' : mjSt3}
theorem i5s (n i : Nat) : (5 : Int32) * nI (n + 1) - 5 + nI i = nI (5 * n + i) := by
  rw [show (5 : Int32) = nI 5 from rfl, nI_mul, show 5 * (n + 1) = 5 * n + 5 by omega, ← nI_add, Int32.add_sub_cancel, nI_add]
/-- rows of what was read that the judge of BLOCKS leaves alone -/
theorem RJ.off2 (J : RJ T N b ks L s) (h63 : s'.1 97 63 = s.1 97 63) (hi : ∀ h, (100 ≤ h ∧ h ≤ 108) ∨ h = 112 ∨ h = 115 ∨ h = 116 ∨ (120 ≤ h ∧ h ≤ 129) ∨ h = 131 ∨ h = 133 ∨ h = 134 ∨ h = 137 ∨ h = 138 ∨ h = 141 → s'.1 h = s.1 h) (hl : ∀ h, ¬ h = 158 → s'.2.1 h = s.2.1 h) : RJ T N b ks L s' := by
  obtain ⟨⟨a1, a2⟩, ⟨b1, b2, b3⟩, c1, d1⟩ := J
  refine ⟨⟨a1, by rw [h63]; exact a2⟩, ⟨by rw [hi 100 (by omega)]; exact b1, by rw [hi 120 (by omega)]; exact b2, fun c E hc => ?_⟩, fun i t ht => ?_, d1⟩
  · obtain ⟨⟨x1, x2, x3, x4, x5, x6, x7, x8⟩, y, z⟩ := b3 c E hc
    refine ⟨⟨by rw [hl 101 (by decide)]; exact x1, by rw [hi 102 (by omega)]; exact x2, ?_, fun e => ?_, fun e => ?_, ?_, by rw [hi 107 (by omega)]; exact x7, x8⟩, by rw [hi 108 (by omega)]; exact y, fun j md hj => ?_⟩
    · unfold RN; rw [hi 104 (by omega), hi 112 (by omega), hl 111 (by decide)]; exact x3
    · rw [hi 103 (by omega), hi 105 (by omega)]; exact x4 e
    · rw [hi 103 (by omega), hi 105 (by omega)]; exact x5 e
    · unfold RI; rw [hi 106 (by omega), hi 115 (by omega), hi 116 (by omega), hl 113 (by decide), hl 114 (by decide)]; exact x6
    · have w := z j md hj
      unfold RM RM0 RP at w ⊢
      rw [hi 124 (by omega), hi 125 (by omega), hi 126 (by omega), hi 127 (by omega), hi 128 (by omega), hi 129 (by omega), hi 131 (by omega), hi 133 (by omega), hi 134 (by omega), hl 132 (by decide), hl 135 (by decide)]
      exact w
  · have w := c1 i t ht
    unfold Kd at w ⊢
    rw [hi 137 (by omega), hi 138 (by omega), hi 141 (by omega), hl 136 (by decide), hl 140 (by decide)]
    exact w
theorem vK_ext (hn : HN T N L) (hk : vK L k) (hw : vK L w) : k = w ↔ cK k = cK w ∧ ∀ i, i < nmL L (cK k) → oK k i = oK w i := by
  constructor
  · intro e; rw [e]; exact ⟨rfl, fun _ _ => rfl⟩
  · intro ⟨e1, e2⟩
    rw [vK.eq hn hk, vK.eq hn hw, e1]
    exact mkK_cg (fun i hi => e2 i (by rw [e1]; exact hi))
theorem stand_as (hn : HN T N L) (hu : vK L u) (hv : vK L v) (hm : ∀ i, i < nmL L (cK u) → oK u i < 5 → oK u i < nmL L (cK v)) : stand (nmL L) u (stand (nmL L) v k) = stand (nmL L) (stand (nmL L) u v) k := by
  have ec : cK (stand (nmL L) u v) = cK u := stand_c hn hu
  show mkK (cK u) (nmL L (cK u)) _ = mkK (cK (stand (nmL L) u v)) (nmL L (cK (stand (nmL L) u v))) _
  rw [ec]
  refine mkK_cg (fun i hi => ?_)
  rw [stand_o hn hu hi]
  by_cases g : oK u i < 5
  · rw [if_pos g, if_pos g, stand_o hn hv (hm i hi g)]
  · rw [if_neg g, if_neg g, if_neg g]
theorem stand_own (hn : HN T N L) (hk : vK L k) : stand (nmL L) (own (nmL L) (cK k)) k = k := by
  have hc := hk.cl hn
  have n5 := (vK.n5 hn hc).2
  have f8 : ∀ i, i < nmL L (cK k) → i < 8 := fun i hi => by omega
  have ec : cK (own (nmL L) (cK k)) = cK k := mkK_c n5 f8
  show mkK (cK (own (nmL L) (cK k))) (nmL L (cK (own (nmL L) (cK k)))) _ = k
  rw [ec]
  conv => rhs; rw [vK.eq hn hk]
  refine mkK_cg (fun i hi => ?_)
  have eo : oK (own (nmL L) (cK k)) i = i := mkK_o n5 f8 hi
  rw [eo, if_pos (by omega)]
/-- a KIND seen as the CLASSES above it -/
theorem chV_st (hn : HN T N L) (hk : vK L k) : ∀ j, chV T L k j = (chn (nmL L) (abT T L) (cK k) j).map (fun v => stand (nmL L) v k)
  | 0 => by
    show some k = some (stand (nmL L) (own (nmL L) (cK k)) k)
    rw [stand_own hn hk]
  | j + 1 => by
    show (match chV T L k j with
      | none => none
      | some w => match abT T L (cK w) with
        | none => none
        | some u => some (stand (nmL L) u w)) = _
    rw [chV_st hn hk j]
    show _ = Option.map _ (match chn (nmL L) (abT T L) (cK k) j with
      | none => none
      | some v => match abT T L (cK v) with
        | none => none
        | some u => some (stand (nmL L) u v))
    cases h : chn (nmL L) (abT T L) (cK k) j with
    | none => rfl
    | some v =>
      have hv := chn_v hn (hk.cl hn) j v h
      show (match abT T L (cK (stand (nmL L) v k)) with
        | none => none
        | some u => some (stand (nmL L) u (stand (nmL L) v k))) = Option.map _ (match abT T L (cK v) with
        | none => none
        | some u => some (stand (nmL L) u v))
      rw [stand_c hn hv]
      cases ha : abT T L (cK v) with
      | none => rfl
      | some u =>
        have hu := ab_v hn (hv.cl hn) ha
        show some _ = some _
        rw [stand_as hn hu hv (fun i hi h5 => ab_nm hn ha hi h5)]
theorem L329_S (R : mjR) (n a : Nat) (b e : Int32) (hp : mjH) : L_329_12 R (n + 1) a b e hp = b_329_12 R (L_329_12 R n) a b e hp := rfl
theorem lq_329 (R : mjR) (hp : p < 200) : ∀ (r i m : Nat) (s : mjSt3), i + r = 5 → r < m → (∀ x, x < i → s.1 165 x = s.1 157 (5 * p + x)) → ∃ s', L_329_12 R m 97 (nI p) (nI i) (mjW0 s) = some (none, mjW0 s') ∧ oUp s s' ∧ s'.1 97 = s.1 97 ∧ ∀ x, x < 5 → s'.1 165 x = s.1 157 (5 * p + x)
  | r, i, 0, s, e, hr, w => by omega
  | 0, i, m + 1, s, e, hr, w => by
    refine ⟨s, ?_, offG.rf, rfl, fun x hx => w x (by omega)⟩
    rw [L329_S]
    unfold b_329_12
    rw [if_pos (show (5 : Int32) ≤ nI i from nI_le (a := 5) (by omega) (by omega))]
  | r + 1, i, m + 1, s, e, hr, w => by
    obtain ⟨z, hz⟩ : ∃ z, z = uI s 165 (upd (s.1 165) i (s.1 157 (5 * p + i))) := ⟨_, rfl⟩
    have z7 : z.1 157 = s.1 157 := by rw [hz]; exact uI_ne _ _ _ _ (by decide)
    obtain ⟨s', b1, b2', b3, b4⟩ := lq_329 R hp r (i + 1) m z (by omega) (by omega) (fun x hx => by
      rw [z7, hz, uI_same, upd_g]
      by_cases e' : x = i
      · rw [if_pos e', e']
      · rw [if_neg e']; exact w x (by omega))
    refine ⟨s', ?_, (show oUp s z by rw [hz]; exact offG.w (Or.inr (Or.inl rfl))).tr b2', by rw [b3, hz]; exact uI_ne _ _ _ _ (by decide), fun x hx => by rw [b4 x hx, z7]⟩
    rw [← b1, L329_S]
    unfold b_329_12
    rw [if_neg (show ¬ (5 : Int32) ≤ nI i from nI_ge (b := 5) (by omega) (by decide)), xg_97_93, xg_97_81, i5m, wa_157 (by omega), ws_165 (by omega), ← hz, nI_1]
/-- load -/
theorem x_329 (hn : HN T N L) (hp : p < 200) {al : Bool} (Y : TY1 L b s p (k + 2) al) : ∃ s', mjF (d + 1) 329 [.ref 97, .int (nI p)] (mjW0 s) = some (none, mjW0 s') ∧ oUp s s' ∧ UPv L b s' k := by
  obtain ⟨z, hz⟩ : ∃ z, z = uI s 97 (upd (s.1 97) 95 (nI (16 * b + cK k))) := ⟨_, rfl⟩
  have z7 : ∀ h, ¬ h = 97 → z.1 h = s.1 h := fun h e => by rw [hz]; exact uI_ne _ _ _ _ e
  obtain ⟨s', b1, b2', b3, b4⟩ := lq_329 (mjF d) hp 5 0 mjN z (by omega) (by have := mjN_v; omega) (fun x hx => by omega)
  have n5 := (vK.n5 hn (Y.2.2.1.cl hn)).2
  refine ⟨s', ?_, (show oUp s z by rw [hz]; exact offG.w (Or.inl ⟨rfl, rfl⟩)).tr b2', ?_, fun i hi => ?_⟩
  · rw [← b1, e_329]
    unfold f_329 b_329_0
    rw [xg_97_79, wa_155 hp, Y.1, show tyC b (k + 2) = nI (16 * b + cK k) from rfl, xp_97_95, ← hz]
    rfl
  · rw [b3, hz, uI_same, upd_g, if_pos rfl]
  · rw [b4 i (by omega), z7 157 (by decide)]
    exact Y.2.2.2 i hi
theorem L334a_S (R : mjR) (n a : Nat) (b : Int32) (hp : mjH) : L_334_85 R (n + 1) a b hp = b_334_85 R (L_334_85 R n) a b hp := rfl
theorem L334b_S (R : mjR) (n a : Nat) (b e f : Int32) (hp : mjH) : L_334_139 R (n + 1) a b e f hp = b_334_139 R (L_334_139 R n) a b e f hp := rfl
/-- fits: up to the CLASS that is asked for -/
theorem lq_334w (Ac : ACY T N L) (hp : p < 200) (hw : w < 16) : ∀ (r n : Nat) (s : mjSt3) (v : Nat), upI (upT T L) (r + 1) (cK v) = none → r + 1 < n → RJ T N b ks L s → (∀ x, x < L.length → ABr T L b s x) → vK L v → UPv L b s v → s.1 155 p = nI (16 * b + w) → ∃ s' v' j, L_334_85 (mjF (d + 2)) n 97 (nI p) (mjW0 s) = b_334_117 (mjF (d + 2)) 97 (nI p) (mjW0 s') ∧ oUp s s' ∧ UPv L b s' v' ∧ vK L v' ∧ chV T L v j = some v' ∧ (∀ i, i < j → ∀ x, chV T L v i = some x → ¬ cK x = w) ∧ (¬ cK v' = w → abT T L (cK v') = none)
  | r, 0, s, v, hu, hr, J, A, hv, U, hy => by omega
  | r, n + 1, s, v, hu, hr, J, A, hv, U, hy => by
    have hn := Ac.1
    have hb := J.b1
    have h16 := J.len
    have ha := hv.cl hn
    have pre : L_334_85 (mjF (d + 2)) (n + 1) 97 (nI p) (mjW0 s) = b_334_85 (mjF (d + 2)) (L_334_85 (mjF (d + 2)) n) 97 (nI p) (mjW0 s) := L334a_S _ _ _ _ _
    unfold b_334_85 at pre
    rw [xg_97_95, U.1, xg_97_79, wa_155 hp, hy] at pre
    by_cases q : cK v = w
    · rw [if_pos (by rw [q])] at pre
      exact ⟨s, v, 0, pre, offG.rf, U, hv, rfl, fun i hi => by omega, fun x => absurd q x⟩
    · rw [if_neg (fun x => q (by have := (nI_eq (by omega) (by omega)).mp x; omega)), xg_97_95, U.1, xV_97, x_242 hb h16 hn ha (A _ ha), bI_s] at pre
      cases hab : abT T L (cK v) with
      | none =>
        have up0 : upT T L (cK v) = none := by unfold upT; rw [hab]; rfl
        rw [up0, if_pos (show cR b none = -1 from rfl)] at pre
        exact ⟨s, v, 0, pre, offG.rf, U, hv, rfl, fun i hi => by omega, fun _ => hab⟩
      | some u =>
        have up1 : upT T L (cK v) = some (cK u) := by unfold upT; rw [hab]; rfl
        have ul : cK u < L.length := up_lt hn ha up1
        obtain ⟨s1, a1, a2, a3, a4⟩ := x_317 (d := d) hb h16 hn hv U (A _ ha) hab
        rw [up1, if_neg (show ¬ cR b (some (cK u)) = -1 from nI_m1 (by omega)), xV_97, a1, bN_s] at pre
        have vu := ab_v hn ha hab
        cases r with
        | zero =>
          have : upT T L (cK v) = none := by
            have e : upI (upT T L) 1 (cK v) = upT T L (cK v) := by
              unfold upI
              cases upT T L (cK v) <;> rfl
            rw [← e]; exact hu
          rw [up1] at this
          cases this
        | succ r =>
          have hu' : upI (upT T L) (r + 1) (cK (stand (nmL L) u v)) = none := by
            rw [stand_c hn vu]
            have e : upI (upT T L) (r + 1 + 1) (cK v) = upI (upT T L) (r + 1) (cK u) := by
              rw [show r + 1 + 1 = 1 + (r + 1) by omega, upI_add]
              have e1 : upI (upT T L) 1 (cK v) = some (cK u) := by
                unfold upI
                rw [up1]
                rfl
              rw [e1]
            rw [← e]; exact hu
          obtain ⟨s', v', j, b1, b2', b3, b4, b5, b6, b7⟩ := lq_334w Ac hp hw r n s1 (stand (nmL L) u v) hu' (by omega) (oUp.J a2 J) (fun x hx => a2.A (A x hx)) a4 a3 (by rw [a2.r (by decide) (by decide) (by decide)]; exact hy)
          refine ⟨s', v', j + 1, pre.trans b1, a2.tr b2', b3, b4, ?_, fun i hi x hx => ?_, b7⟩
          · rw [chV_S, hab]; exact b5
          · cases i with
            | zero => cases hx; exact q
            | succ i =>
              rw [chV_S, hab] at hx
              exact b6 i (by omega) x hx
/-- fits: the OWNERS -/
theorem lq_334o (J : RJ T N b ks L s) (hp : p < 200) (hv : vK L v) (U : UPv L b s v) (hw : vK L w) (hO : ∀ i, i < nmL L (cK w) → s.1 157 (5 * p + i) = oR (oK w i)) (R : mjR) : ∀ (r i n : Nat) (g : Bool), i + r = nmL L (cK v) → r < n → (g = true → cK v = cK w) → L_334_139 R n 97 (nI p) (b2 g) (nI i) (mjW0 s) = some (some (.int (b2 (g && allR (fun i => decide (oK v i = oK w i)) i r))), mjW0 s)
  | r, i, 0, g, e, hr, hg => by omega
  | r, i, n + 1, g, e, hr, hg => by
    have hn := J.2.2.2.2.2.1
    have hc := hv.cl hn
    have n5 := (vK.n5 hn hc).2
    have h16 := J.len
    have hb := J.b1
    have h104 : s.1 104 (16 * b + cK v) = nI (nmL L (cK v)) := (J.hd hc).2.2.1.1
    rw [L334b_S]
    unfold b_334_139 b_334_190 b_334_183
    rw [xg_97_15, xg_97_95, U.1, wa_104 (by omega), h104]
    cases r with
    | zero =>
      rw [if_pos (nI_le (by omega) (by omega)), if_pos (b2_nar _)]
      show _ = some (some (Value.int (b2 (g && true))), mjW0 s)
      rw [Bool.and_true]
    | succ r =>
      rw [if_neg (nI_ge (by omega) (by omega))]
      cases g with
      | false =>
        rw [if_pos (show b2 false = 0 from rfl), if_pos (b2_nar _)]
        rfl
      | true =>
        have ec := hg rfl
        rw [if_neg (show ¬ b2 true = 0 by decide), xg_97_93, wa_165 (by omega), U.2 i (by omega), xg_97_81, i5m, wa_157 (by omega), hO i (by rw [← ec]; omega), nI_1, Bool.true_and]
        show _ = some (some (Value.int (b2 (decide (oK v i = oK w i) && allR _ (i + 1) r))), mjW0 s)
        by_cases q : oK v i = oK w i
        · rw [if_pos (by rw [q]), decide_eq_true q, Bool.true_and]
          have := lq_334o J hp hv U hw hO R r (i + 1) n true (by omega) (by omega) (fun _ => ec)
          rw [Bool.true_and] at this
          exact this
        · rw [if_neg (fun x => q ((oR_inj (hv.ow hn i (by omega)) (hw.ow hn i (by omega))).mp x)), decide_eq_false q, Bool.false_and]
          have := lq_334o J hp hv U hw hO R r (i + 1) n false (by omega) (by omega) (fun e => by cases e)
          rw [Bool.false_and] at this
          exact this
end MJA93
