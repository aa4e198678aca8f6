/-! ===== the reference's judge: judgeOver ===== -/
/-- (e) as the reference asks it: the nearest above alone -/
def OKe2 (T : TT) (L : List CD) (m : Nat) : Prop := ∀ o, nearM T L m = some o → mSM L m = true ∧ mSM L o = true ∧ samM T L m o
def oOv : mjSt3 → mjSt3 → Prop := offG (fun h j => (h = 97 ∧ (j = 61 ∨ j = 62 ∨ j = 95)) ∨ h = 165 ∨ h = 166) (fun _ _ => False)
section MJA82
variable {T : TT} {d N b k t c n m v u a o : Nat} {ks : List Nat} {L : List CD} {s s' : mjSt3} {ti : Int32} {key : Int64}
theorem oUp.Ov (h : oUp s s') : oOv s s' := offG.mono h (fun _ _ x => x.elim (fun x => Or.inl ⟨x.1, by omega⟩) Or.inr) (fun _ _ x => x)
theorem o61.Ov (h : o61 s s') : oOv s s' := offG.mono h (fun _ _ x => Or.inl ⟨x.1, by omega⟩) (fun _ _ x => x)
theorem oOv.r (o : oOv s s') {h : Nat} (h1 : ¬ h = 97) (h2 : ¬ h = 165) (h3 : ¬ h = 166) : s'.1 h = s.1 h := funext fun j => o.1 h j (by omega)
theorem oOv.f (o : oOv s s') {j : Nat} (h1 : ¬ (j = 61 ∨ j = 62 ∨ j = 95)) : s'.1 97 j = s.1 97 j := o.1 97 j (by omega)
theorem oOv.l (o : oOv s s') : s'.2 = s.2 := Prod.ext (funext fun x => funext fun j => o.2.1 x j (fun e => e)) o.2.2
theorem oOv.J (o : oOv s s') (J : RJ T N b ks L s) : RJ T N b ks L s' := J.off (o.f (by omega)) (fun x hx => o.r (by omega) (by omega) (by omega)) (by rw [o.l])
theorem oOv.A (o : oOv s s') (A : ABr T L b s c) : ABr T L b s' c := A.cg (o.r (by decide) (by decide) (by decide)) (o.r (by decide) (by decide) (by decide)) (o.r (by decide) (by decide) (by decide)) (o.r (by decide) (by decide) (by decide))
theorem TKr.cg {ty : Nat} (K : TKr L b s ti ty) (h1 : s'.1 138 = s.1 138) (h2 : s'.1 139 = s.1 139) (h3 : s'.1 142 = s.1 142) : TKr L b s' ti ty := by
  match ty, K with
  | 0, K => exact K
  | kk + 2, ⟨v, k, k1, k2, k3, k4⟩ => exact ⟨v, k, k1, k2, by rw [h1]; exact k3, by rw [h2]; exact k4.1, fun i hi => by rw [h3]; exact k4.2 i hi⟩
theorem oOv.M (o : oOv s s') (K : TMr T L b s m) : TMr T L b s' m := ⟨by rw [o.r (by decide) (by decide) (by decide)]; exact K.1.cg (o.r (by decide) (by decide) (by decide)) (o.r (by decide) (by decide) (by decide)) (o.r (by decide) (by decide) (by decide)), fun i hi => by rw [o.r (by decide) (by decide) (by decide)]; exact (K.2 i hi).cg (o.r (by decide) (by decide) (by decide)) (o.r (by decide) (by decide) (by decide)) (o.r (by decide) (by decide) (by decide))⟩
theorem oOv.Q (o : oOv s s') (V : QV T L b m s) : QV T L b m s' := ⟨fun x hx => o.M (V.1 x hx), fun x hx => o.A (V.2 x hx)⟩
theorem chV_v (hn : HN T N L) : ∀ (j v x : Nat), vK L v → chV T L v j = some x → vK L x ∧ upI (upT T L) j (cK v) = some (cK x)
  | 0, v, x, hv, h => by cases h; exact ⟨hv, rfl⟩
  | j + 1, v, x, hv, h => by
    rw [chV_S] at h
    cases ha : abT T L (cK v) with
    | none => rw [ha] at h; cases h
    | some u =>
      rw [ha] at h
      have hu := ab_v hn (hv.cl hn) ha
      obtain ⟨a1, a2⟩ := chV_v hn j (stand (nmL L) u v) x (vK.stand hn hu hv) h
      refine ⟨a1, ?_⟩
      rw [stand_c hn hu] at a2
      show (match upT T L (cK v) with
        | none => none
        | some y => upI (upT T L) j y) = some (cK x)
      rw [show upT T L (cK v) = some (cK u) by unfold upT; rw [ha]; rfl]
      exact a2
theorem chV_own : ∀ j, chV T L (own (nmL L) c) j = chn (nmL L) (abT T L) c j
  | 0 => rfl
  | j + 1 => by
    show (match chV T L (own (nmL L) c) j with
      | none => none
      | some w => match abT T L (cK w) with
        | none => none
        | some u => some (stand (nmL L) u w)) = (match chn (nmL L) (abT T L) c j with
      | none => none
      | some v => match abT T L (cK v) with
        | none => none
        | some u => some (stand (nmL L) u v))
    rw [chV_own j]
theorem vw_chn (A : ACY T N L) (hc : c < L.length) (h : chn (nmL L) (abT T L) c k = some v) (hk : k < 16) : vwT (nmL L) (abT T L) c (cK v) = some v := by
  obtain ⟨w, hw⟩ := vw_of h hk
  obtain ⟨j, j1, j2, j3⟩ := vwk_at hw
  show vwk (nmL L) (abT T L) c (cK v) 16 = some v
  rw [hw]
  by_cases e : j = k
  · subst e
    rw [j2] at h
    exact h
  · by_cases g : j < k
    · exact absurd j3 (chn_ne A hc j2 h g (by omega))
    · exact absurd j3.symm (chn_ne A hc h j2 (by omega) (by omega))
theorem anc_find {up : Nat → Option Nat} {g : Nat → Option Nat} : ∀ (j f x a : Nat), (∀ i, i < j → ∀ y, upI up i x = some y → g y = none) → upI up j x = some a → j < f → (¬ g a = none ∨ up a = none) → (anc up f (some x)).findSome? g = g a
  | j, 0, x, a, _, _, hf, _ => by omega
  | 0, f + 1, x, a, h1, h2, hf, h3 => by
    cases h2
    show (x :: anc up f (up x)).findSome? g = g x
    rw [List.findSome?_cons]
    cases hg : g x with
    | some o => rfl
    | none =>
      have e := h3.resolve_left (fun q => q hg)
      rw [e]
      cases f <;> rfl
  | j + 1, f + 1, x, a, h1, h2, hf, h3 => by
    show (x :: anc up f (up x)).findSome? g = g a
    rw [List.findSome?_cons, h1 0 (by omega) x rfl]
    cases hu : up x with
    | none =>
      have h2' : (match up x with
        | none => none
        | some y => upI up j y) = some a := h2
      rw [hu] at h2'
      cases h2'
    | some y =>
      have h2' : (match up x with
        | none => none
        | some y => upI up j y) = some a := h2
      rw [hu] at h2'
      refine anc_find j f y a (fun i hi z hz => h1 (i + 1) (by omega) z ?_) h2' (by omega) h3
      show (match up x with
        | none => none
        | some y => upI up i y) = some z
      rw [hu]
      exact hz
theorem fmR_2 : fmR T L 2 key a = omT T L a key := by
  unfold fmR omT
  rw [show (fun i => decide (nkM T L (fmL L a + i) = key) && (decide ((2 : Int32) = 2) || decide (b2 (mSM L (fmL L a + i)) = 2))) = (fun i => decide (nkM T L (fmL L a + i) = key)) from funext fun i => by simp]
  rfl
theorem om_lt (h : omT T L a key = some o) : fmL L a ≤ o ∧ o < fmL L a + mcL L a ∧ nkM T L o = key := by
  unfold omT at h
  cases hf : fnd (fun i => decide (nkM T L (fmL L a + i) = key)) (mcL L a) with
  | none => rw [hf] at h; cases h
  | some i =>
    rw [hf] at h
    obtain ⟨f1, f2, _⟩ := fnd_some.mp hf
    have e : fmL L a + i = o := by simpa using h
    have := of_decide_eq_true f2
    rw [e] at this
    exact ⟨by omega, by omega, this⟩
theorem L314_S (R : mjR) (n a : Nat) (b e : Int32) (hp : mjH) : L_314_16 R (n + 1) a b e hp = b_314_16 R (L_314_16 R n) a b e hp := rfl
/-- what findMember found above is the nearest; and as what -/
theorem near_of (Ac : ACY T N L) (hc : hmM L m < L.length) (hu : abT T L (hmM L m) = some u) {v' j : Nat} (h1 : chV T L (stand (nmL L) u (own (nmL L) (hmM L m))) j = some v') (h2 : ∀ i, i < j → ∀ x, chV T L (stand (nmL L) u (own (nmL L) (hmM L m))) i = some x → fmR T L 2 (nkM T L m) (cK x) = none) (h3 : fmR T L 2 (nkM T L m) (cK v') = none → abT T L (cK v') = none) : nearM T L m = fmR T L 2 (nkM T L m) (cK v') ∧ vwT (nmL L) (abT T L) (hmM L m) (cK v') = some v' := by
  have hn := Ac.1
  have vu := ab_v hn hc hu
  have vo := vK.own hn hc
  have oc := own_c hn hc
  have vs := vK.stand hn vu vo
  have sc : cK (stand (nmL L) u (own (nmL L) (hmM L m))) = cK u := stand_c hn vu
  have up1 : upT T L (hmM L m) = some (cK u) := by unfold upT; rw [hu]; rfl
  obtain ⟨w1, w2⟩ := chV_v hn j _ v' vs h1
  rw [sc] at w2
  have ul := up_lt hn hc up1
  have j16 := up_end Ac ul w2
  have e1 : chn (nmL L) (abT T L) (hmM L m) (j + 1) = some v' := by
    rw [← chV_own, chV_S, oc, hu]
    exact h1
  have j15 : j + 1 < 16 := by
    have := chn_c hn hc (j + 1) v' e1
    exact up_end Ac hc this
  refine ⟨?_, vw_chn Ac hc e1 j15⟩
  unfold nearM ancM
  rw [up1, fmR_2]
  refine anc_find j 16 (cK u) (cK v') (fun i hi y hy => ?_) w2 j16 ?_
  · -- the CLASS i above
    have : ∃ x, chV T L (stand (nmL L) u (own (nmL L) (hmM L m))) i = some x := by
      have key : ∀ i v, vK L v → ∀ y, upI (upT T L) i (cK v) = some y → ∃ x, chV T L v i = some x := by
        intro i
        induction i with
        | zero => intro v _ y _; exact ⟨v, rfl⟩
        | succ i ih =>
          intro v hv y hy
          have hy' : (match upT T L (cK v) with
            | none => none
            | some z => upI (upT T L) i z) = some y := hy
          rw [chV_S]
          cases ha : abT T L (cK v) with
          | none =>
            rw [show upT T L (cK v) = none by unfold upT; rw [ha]; rfl] at hy'
            cases hy'
          | some w =>
            rw [show upT T L (cK v) = some (cK w) by unfold upT; rw [ha]; rfl] at hy'
            have vw := ab_v hn (hv.cl hn) ha
            exact ih _ (vK.stand hn vw hv) y (by rw [stand_c hn vw]; exact hy')
      exact key i _ vs y (by rw [sc]; exact hy)
    obtain ⟨x, hx⟩ := this
    obtain ⟨_, x2⟩ := chV_v hn i _ x vs hx
    rw [sc, hy] at x2
    have ex : y = cK x := by simpa using x2
    have := h2 i hi x hx
    rw [fmR_2] at this
    rw [ex]
    exact this
  · rw [← fmR_2]
    cases hf : fmR T L 2 (nkM T L m) (cK v') with
    | some o => exact Or.inl (fun e => by cases e)
    | none =>
      refine Or.inr ?_
      unfold upT
      rw [h3 hf]
      rfl
theorem lq_314 (Ac : ACY T N L) (hc : c < L.length) : ∀ (r i n : Nat) (s : mjSt3), i + r = mcL L c → r < n → RJ T N b ks L s → QV T L b (nMem L) s → GR s → ∃ s', L_314_16 (mjF (d + 4)) n 97 (nI (16 * b + c)) (nI (400 * b + (fmL L c + i))) (mjW0 s) = some (none, mjW0 s') ∧ oOv s s' ∧ GR s' ∧ (gR0 s' ↔ gR0 s ∧ ∀ x, i ≤ x → x < mcL L c → OKe2 T L (fmL L c + x))
  | r, i, 0, s, e, hr, J, V, g => by omega
  | 0, i, n + 1, s, e, hr, J, V, g => by
    have hb := J.b1
    have h16 := J.len
    have m384 := J.n384
    obtain ⟨c1, c2, c3, c4⟩ := J.mc hc
    refine ⟨s, ?_, offG.rf, g, ⟨fun x => ⟨x, fun y h1 h2 => by omega⟩, fun x => x.1⟩⟩
    rw [L314_S]
    unfold b_314_16
    rw [xg_97_18, wa_107 (by omega), c2, xg_97_63, J.1.2, xg_97_19, wa_108 (by omega), c1, i4m, nI_ad, if_pos (nI_le (by omega) (by omega))]
  | r + 1, i, n + 1, s, e, hr, J, V, g => by
    have hn := Ac.1
    have hb := J.b1
    have h16 := J.len
    have m384 := J.n384
    obtain ⟨c1, c2, c3, c4⟩ := J.mc hc
    obtain ⟨m, em⟩ : ∃ m, m = fmL L c + i := ⟨_, rfl⟩
    have hm : m < nMem L := by omega
    have hma : hmM L m = c := by rw [em]; exact hm_at hc (by omega)
    rw [← em]
    by_cases g0 : s.1 97 61 = 0
    · obtain ⟨s1, a1, a2, a3⟩ := x_315 (d := d + 3) (b := b) (s := s) hn hc
      have J1 := oUp.J a2 J
      have V1 := a2.Ov.Q V
      have g1 : s1.1 97 61 = 0 := by rw [a2.f (by decide)]; exact g0
      have oc := own_c hn hc
      obtain ⟨fa, fb⟩ := x_316a (d := d + 1) (key := nkM T L m) (w := 2) Ac J1 V1.2 (vK.own hn hc) a3
      rw [oc] at fa fb
      obtain ⟨U, hU⟩ : ∃ U, U = L_314_16 (mjF (d + 4)) (n + 1) 97 (nI (16 * b + c)) (nI (400 * b + m)) (mjW0 s) := ⟨_, rfl⟩
      rw [← hU]
      have pre := hU
      rw [L314_S] at pre
      unfold b_314_16 at pre
      rw [xg_97_18, wa_107 (by omega), c2, xg_97_63, J.1.2, xg_97_19, wa_108 (by omega), c1, i4m, nI_ad, if_neg (nI_ge (by omega) (by omega)), xg_97_61, if_pos g0, xV_97, a1, bN_s, xg_97_43, wa_132 (by omega), J1.mn hm, xV_97] at pre
      -- on to the next MEMBER
      have nxt : ∀ z, oOv s z → GR z → (gR0 z ↔ OKe2 T L m) → U = b_314_128 (mjF (d + 4)) (L_314_16 (mjF (d + 4)) n) 97 (nI (16 * b + c)) (nI (400 * b + m)) (mjW0 z) → ∃ s', U = some (none, mjW0 s') ∧ oOv s s' ∧ GR s' ∧ (gR0 s' ↔ gR0 s ∧ ∀ x, i ≤ x → x < mcL L c → OKe2 T L (fmL L c + x)) := by
        intro z oz gz iz pz
        obtain ⟨s', b1, b2', b3, b4⟩ := lq_314 Ac hc r (i + 1) n z (by omega) (by omega) (oz.J J) (oz.Q V) gz
        refine ⟨s', ?_, oz.tr b2', b3, ?_⟩
        · rw [pz]
          unfold b_314_128
          rw [nI_1, em, show 400 * b + (fmL L c + i) + 1 = 400 * b + (fmL L c + (i + 1)) by omega]
          exact b1
        · rw [b4, iz]
          constructor
          · intro ⟨x1, x2⟩
            refine ⟨g0, fun x h1 h2 => ?_⟩
            by_cases e' : x = i
            · rw [e', ← em]; exact x1
            · exact x2 x (by omega) h2
          · intro ⟨_, x2⟩
            refine ⟨?_, fun x h1 h2 => x2 x (by omega) h2⟩
            have := x2 i (Nat.le_refl _) (by omega)
            rw [← em] at this
            exact this
      cases hab : abT T L c with
      | none =>
        have nn : nearM T L m = none := by
          unfold nearM ancM
          rw [hma, show upT T L c = none by unfold upT; rw [hab]; rfl]
          rfl
        rw [fa hab, bI_s, if_pos rfl] at pre
        exact nxt s1 a2.Ov (Or.inl g1) ⟨fun _ o ho => (by rw [nn] at ho; cases ho), fun _ => g1⟩ pre
      | some u =>
        obtain ⟨s2, v', j, b1, b2', b3, b4, b5, b6, b7⟩ := fb u hab
        rw [← hma] at hab b5 b6
        obtain ⟨nr, vw⟩ := near_of Ac (by rw [hma]; exact hc) hab b5 b6 b7
        have o2 : oOv s s2 := a2.Ov.tr b2'.Ov
        have J2 := o2.J J
        have V2 := o2.Q V
        have g2 : s2.1 97 61 = 0 := by rw [b2'.f (by decide)]; exact g1
        rw [b1, bI_s] at pre
        cases hf : fmR T L 2 (nkM T L m) (cK v') with
        | none =>
          rw [hf, if_pos (show mR b none = -1 from rfl)] at pre
          exact nxt s2 o2 (Or.inl g2) ⟨fun _ o ho => (by rw [nr, hf] at ho; cases ho), fun _ => g2⟩ pre
        | some o =>
          have vl := b4.cl hn
          have ol := fmR_lt hf
          obtain ⟨_, _, d3, d4⟩ := J.mc vl
          have ho : o < nMem L := by omega
          have hmo : hmM L o = cK v' := by
            have := hm_at (L := L) vl (show o - fmL L (cK v') < mcL L (cK v') by omega)
            rw [show fmL L (cK v') + (o - fmL L (cK v')) = o by omega] at this
            exact this
          rw [hf] at nr
          rw [hf, if_neg (show ¬ mR b (some o) = -1 from nI_m1 (by omega)), xg_97_36, wa_125 (by omega), J2.sort hm, xg_97_36, show mR b (some o) = nI (400 * b + o) from rfl, wa_125 (by omega), J2.sort ho, xV_97] at pre
          have i2 : OKe2 T L m ↔ mSM L m = true ∧ mSM L o = true ∧ samV T L m o v' := by
            constructor
            · intro h
              obtain ⟨x1, x2, x3⟩ := h o nr
              exact ⟨x1, x2, x3 v' (by rw [hmo]; exact vw)⟩
            · intro ⟨x1, x2, x3⟩ o' ho'
              rw [nr] at ho'
              cases ho'
              refine ⟨x1, x2, fun w hw => ?_⟩
              rw [hmo, vw] at hw
              cases hw
              exact x3
          have bad : ∀ k : Int32, ¬ k ≤ 0 → ¬ OKe2 T L m → U = bN (mjF (d + 4) 268 [.ref 97, .int k, .int (s2.1 127 (400 * b + m))] (mjW0 s2)) (fun hp3 => b_314_128 (mjF (d + 4)) (L_314_16 (mjF (d + 4)) n) 97 (nI (16 * b + c)) (nI (400 * b + m)) hp3) → ∃ s', U = some (none, mjW0 s') ∧ oOv s s' ∧ GR s' ∧ (gR0 s' ↔ gR0 s ∧ ∀ x, i ≤ x → x < mcL L c → OKe2 T L (fmL L c + x)) := by
            intro k hk nk pk
            obtain ⟨z, e1, e2, e3⟩ := x_268 (d := d + 3) (s := s2) (Or.inl g2) hk (s2.1 127 (400 * b + m))
            rw [e1, bN_s] at pk
            exact nxt z (o2.tr e2.Ov) (Or.inr e3) ⟨fun x => absurd x e3.ng, fun x => absurd x nk⟩ pk
          have e93 : b_314_93 (mjF (d + 4)) (L_314_16 (mjF (d + 4)) n) 97 (nI (16 * b + c)) (nI (400 * b + m)) (mjW0 s2) = bN (mjF (d + 4) 268 [.ref 97, .int 4, .int (s2.1 127 (400 * b + m))] (mjW0 s2)) (fun hp3 => b_314_128 (mjF (d + 4)) (L_314_16 (mjF (d + 4)) n) 97 (nI (16 * b + c)) (nI (400 * b + m)) hp3) := by
            unfold b_314_93
            rw [xg_97_38, wa_127 (by omega), xV_97]
          rw [e93] at pre
          cases q1 : mSM L m with
          | false =>
            rw [q1, if_pos (show b2 false = 0 from rfl)] at pre
            exact bad 4 (by decide) (fun h => by have := (i2.mp h).1; rw [q1] at this; cases this) pre
          | true =>
            rw [q1, if_neg (show ¬ b2 true = 0 by decide)] at pre
            cases q2 : mSM L o with
            | false =>
              rw [q2, if_pos (show b2 false = 0 from rfl)] at pre
              exact bad 4 (by decide) (fun h => by have := (i2.mp h).2.1; rw [q2] at this; cases this) pre
            | true =>
              rw [q2, if_neg (show ¬ b2 true = 0 by decide)] at pre
              obtain ⟨rb, f1, f2⟩ := x_319 (d := d + 1) J2 b4 b3 hm ho (V2.1 m hm) (V2.1 o ho) hmo.symm
              rw [f1, bI_s] at pre
              cases rb with
              | true =>
                rw [if_neg (show ¬ b2 true = 0 by decide)] at pre
                exact nxt s2 o2 (Or.inl g2) ⟨fun _ => i2.mpr ⟨q1, q2, f2.mp rfl⟩, fun _ => g2⟩ pre
              | false =>
                rw [if_pos (show b2 false = 0 from rfl), xg_97_38, wa_127 (by omega), xV_97] at pre
                exact bad 9 (by decide) (fun h => by have := f2.mpr (i2.mp h).2.2; cases this) pre
    · refine ⟨s, ?_, offG.rf, g, ⟨fun x => absurd x g0, fun x => absurd x.1 g0⟩⟩
      rw [L314_S]
      unfold b_314_16
      rw [xg_97_18, wa_107 (by omega), c2, xg_97_63, J.1.2, xg_97_19, wa_108 (by omega), c1, i4m, nI_ad, if_neg (nI_ge (by omega) (by omega)), xg_97_61, if_neg g0]
/-- judgeOver -/
theorem x_314 (Ac : ACY T N L) (hc : c < L.length) (J : RJ T N b ks L s) (V : QV T L b (nMem L) s) (g : GR s) : ∃ s', mjF (d + 5) 314 [.ref 97, .int (nI (16 * b + c))] (mjW0 s) = some (none, mjW0 s') ∧ oOv s s' ∧ GR s' ∧ (gR0 s' ↔ gR0 s ∧ ∀ x, x < mcL L c → OKe2 T L (fmL L c + x)) := by
  have hb := J.b1
  have h16 := J.len
  obtain ⟨c1, c2, c3, c4⟩ := J.mc hc
  obtain ⟨s', b1, b2', b3, b4⟩ := lq_314 (d := d) Ac hc (mcL L c) 0 mjN s (by omega) (by have := mjN_v; omega) J V g
  refine ⟨s', ?_, b2', b3, b4.trans ⟨fun x => ⟨x.1, fun y hy => x.2 y (Nat.zero_le _) hy⟩, fun x => ⟨x.1, fun y _ hy => x.2 y hy⟩⟩⟩
  rw [e_314]
  unfold f_314 b_314_0
  rw [xg_97_18, wa_107 (by omega), c2, xg_97_63, J.1.2, i4m]
  exact b1
end MJA82
