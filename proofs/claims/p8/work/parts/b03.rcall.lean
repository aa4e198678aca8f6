/-! ===== the reference judges one order: calls ===== -/
section MJB03
variable {T : TT} {d N b k t c n m v w p q kq Xe i : Nat} {ks : List Nat} {L : List CD} {s s' s'' s1 z : mjSt3} {tr : Bool} {E : EV} {j : JS} {x : WS} {r : Row} {u : mjU} {mm : Option Nat} {e : Nat × Bool} {st : List (Nat × Bool)}
/-- other TYPES wait, a call's values are counted otherwise -/
theorem BR.mkP (hn : HN T N L) (R : BR L b s j x Xe) (o : oQ n s s') {st : List (Nat × Bool)} (hst : TSs L b s' st) (h82 : s'.1 97 82 = nI st.length) {h' : Nat} (hl : st.length = h') (h60 : st.length ≤ 60) {rs : List Nat} {q' : Nat} {pe : List (Nat × Nat)} (hp : PDs L b s j.2.1 pe) : BR L b s' (st, j.2.1, j.2.2.1, j.2.2.2.1, j.2.2.2.2.1, j.2.2.2.2.2.1, j.2.2.2.2.2.2.1, rs) ((x.1.1, h', pe, q'), x.2) Xe := by
  obtain ⟨_, ⟨c1, c2, c3⟩, ⟨v1, v2⟩, ⟨d1, d2⟩, l⟩ := R
  exact ⟨⟨h82, hst, hl, h60⟩, ⟨by rw [o.f (by omega)]; exact c1, PDs.same hn hp (o.r (by omega)) (o.r (by omega)), c3⟩, ⟨v1.same (by rw [o.l]) (o.r (by omega)) (o.r (by omega)) (o.r (by omega)) (o.f (by omega)) (o.r (by omega)) (o.r (by omega)) (o.r (by omega)), v2⟩, ⟨by rw [o.f (by omega)]; exact d1, d2⟩, by rw [o.r (by omega)]; exact l⟩
theorem PDs_bump : ∀ {l e : List (Nat × Nat)}, PDs L b s l e → PDs L b s l (bump e)
  | [], [], h => h
  | [], _ :: _, h => h.elim
  | _ :: _, [], h => h.elim
  | _ :: _, _ :: _, h => h
theorem L333_S (R : mjR) (n a : Nat) (b e f : Int32) (hp : mjH) : L_333_14 R (n + 1) a b e f hp = b_333_14 R (L_333_14 R n) a b e f hp := rfl
theorem lq_333 (R : mjR) {l1 l2 : Int32} (h64 : p < 64) : ∀ (r i m : Nat) (s : mjSt3), i + r = 5 → r < m → s.1 97 92 = nI (p + 1) → (∀ x, x < i → s.1 165 x = s.1 163 (5 * p + x)) → ∃ s' m', L_333_14 R m 97 l1 l2 (nI i) (mjW0 s) = L_333_14 R (m' + 1) 97 l1 l2 5 (mjW0 s') ∧ oUp s s' ∧ s'.1 97 = s.1 97 ∧ ∀ x, x < 5 → s'.1 165 x = s.1 163 (5 * p + x)
  | r, i, 0, s, e, hr, h92, w => by omega
  | 0, i, m + 1, s, e, hr, h92, w => ⟨s, m, by rw [show nI i = 5 by rw [show i = 5 by omega]; rfl], offG.rf, rfl, fun x hx => w x (by omega)⟩
  | r + 1, i, m + 1, s, e, hr, h92, w => by
    obtain ⟨z, hz⟩ : ∃ z, z = uI s 165 (upd (s.1 165) i (s.1 163 (5 * p + i))) := ⟨_, rfl⟩
    have r1 : ∀ h, ¬ h = 165 → z.1 h = s.1 h := fun h e => by rw [hz]; exact uI_ne _ _ _ _ e
    obtain ⟨s', m', b1, b2', b3, b4⟩ := lq_333 R h64 r (i + 1) m z (by omega) (by omega) (by rw [r1 97 (by decide)]; exact h92) (fun x hx => by
      rw [r1 163 (by decide), hz, uI_same, upd_g]
      by_cases e' : x = i
      · rw [if_pos e', e']
      · rw [if_neg e']; exact w x (by omega))
    refine ⟨s', m', ?_, (show oUp s z by rw [hz]; exact offG.w (Or.inr (Or.inl rfl))).tr b2', by rw [b3, r1 97 (by decide)], fun x hx => by rw [b4 x hx, r1 163 (by decide)]⟩
    rw [← b1, L333_S]
    unfold b_333_14
    rw [if_neg (show ¬ (5 : Int32) ≤ nI i from nI_ge (b := 5) (by omega) (by decide)), xg_97_93, xg_97_90, xg_97_92, h92, nI_pred, i5m, wa_163 (by omega), ws_165 (by omega), ← hz, nI_1]
theorem L323b_S (R : mjR) (n a : Nat) (b : Int32) (hp : mjH) : L_323_388 R (n + 1) a b hp = b_323_388 R (L_323_388 R n) a b hp := rfl
theorem lq_323b (R : mjR) (h64 : p < 64) : ∀ (r i m : Nat) (s : mjSt3), i + r = 5 → r < m → s.1 97 92 = nI p → (∀ x, x < i → s.1 165 x = s.1 163 (5 * p + x)) → ∃ s' m', L_323_388 R m 97 (nI i) (mjW0 s) = L_323_388 R (m' + 1) 97 5 (mjW0 s') ∧ oUp s s' ∧ s'.1 97 = s.1 97 ∧ ∀ x, x < 5 → s'.1 165 x = s.1 163 (5 * p + x)
  | r, i, 0, s, e, hr, h92, w => by omega
  | 0, i, m + 1, s, e, hr, h92, w => ⟨s, m, by rw [show nI i = 5 by rw [show i = 5 by omega]; rfl], offG.rf, rfl, fun x hx => w x (by omega)⟩
  | r + 1, i, m + 1, s, e, hr, h92, w => by
    obtain ⟨z, hz⟩ : ∃ z, z = uI s 165 (upd (s.1 165) i (s.1 163 (5 * p + i))) := ⟨_, rfl⟩
    have r1 : ∀ h, ¬ h = 165 → z.1 h = s.1 h := fun h e => by rw [hz]; exact uI_ne _ _ _ _ e
    obtain ⟨s', m', b1, b2', b3, b4⟩ := lq_323b R h64 r (i + 1) m z (by omega) (by omega) (by rw [r1 97 (by decide)]; exact h92) (fun x hx => by
      rw [r1 163 (by decide), hz, uI_same, upd_g]
      by_cases e' : x = i
      · rw [if_pos e', e']
      · rw [if_neg e']; exact w x (by omega))
    refine ⟨s', m', ?_, (show oUp s z by rw [hz]; exact offG.w (Or.inr (Or.inl rfl))).tr b2', by rw [b3, r1 97 (by decide)], fun x hx => by rw [b4 x hx, r1 163 (by decide)]⟩
    rw [← b1, L323b_S]
    unfold b_323_388
    rw [if_neg (show ¬ (5 : Int32) ≤ nI i from nI_ge (b := 5) (by omega) (by decide)), xg_97_93, xg_97_90, xg_97_92, h92, i5m, wa_163 (by omega), ws_165 (by omega), ← hz, nI_1]
theorem ty_Nm (hn : HN T N L) (hm : hmM L m < L.length) : tyN L (hmM L m) (tyM T L m) := tyT_N hn hm
theorem j_12 (F : FX E.1 N b ks E.2.1 E.2.2.1) (S : BS E.1 N b ks E.2.1 E.2.2.1 s) (g : gR0 s) (R : BR E.2.1 b s j x Xe) (row : Rw s (5000 * b + i) r) (hi : i < 5000) (hr : r.1 = 12) (ok : okEr 60 20 120 r x.1) : gJ E N b ks i kq Xe r j x s (mjF (d + 7) 323 [.ref 97, .int (nI (5000 * b + i))] (mjW0 s)) := by
  have J := S.1.1
  have hn := J.2.2.2.2.2.1
  have hb := J.b1
  have h60 := R.1.2.2.2
  have hl := R.1.2.2.1
  have hmj := mjN_v
  obtain ⟨lo1, n, a, pl, lo2, lo3, lo4, lo5⟩ := ok.2.2.2.2.2.2.2.2.1 hr
  obtain ⟨e, st, ej⟩ := lst1 (show 1 ≤ j.1.length by omega)
  have q1 := R.1.1
  have q2 := R.1.2.1
  rw [ej] at q1 q2 hl h60
  rw [List.length_cons] at q1 hl h60
  obtain ⟨c1, c2, c3⟩ := R.2.1
  rw [lo2] at c2
  have pc : ∃ p pd, j.2.1 = p :: pd := by
    cases hp : j.2.1 with
    | nil => rw [hp] at c2; exact c2.elim
    | cons p pd => exact ⟨p, pd, rfl⟩
  obtain ⟨p, pd, ep⟩ := pc
  rw [ep] at c1 c2 c3
  rw [List.length_cons] at c1 c3
  obtain ⟨⟨p1, p2, p3, p4, p5, p6⟩, _⟩ := c2
  have hp6 : (psM E.2.1 p.1).length = n := p6
  have m384 := J.n384
  have n5 := (vK.n5 hn (p3.cl hn)).2
  have ap : a < (psM E.2.1 p.1).length := by omega
  have enN : r.2.2.1.toNatClampNeg = a := by
    rw [lo5]
    exact nN_nI (by omega)
  have hj : jrow E r j = if fitT E.1 E.2.1 e.1 (sty (nmL E.2.1) (pyT E.1 E.2.1 p.1 a) p.2) = true then some (jst j st (jRS j), []) else none := by
    unfold jrow
    rw [hr, if_neg (by decide), if_neg (by decide), if_neg (by decide), if_neg (by decide), if_neg (by decide), if_neg (by decide), if_neg (by decide), if_neg (by decide), if_neg (by decide), if_neg (by decide), if_neg (by decide), if_neg (by decide), if_pos rfl, ej, ep, enN]
  have hx : nxW r i x = ((x.1.1, x.1.2.1 - 1, bump x.1.2.2.1, x.1.2.2.2), x.2) := by
    rw [nxW_E ok.1]
    show (hxE r x.1, x.2) = _
    rw [hx_12 hr]
  obtain ⟨s1, m', b1, b2', b3, b4⟩ := lq_333 (p := pd.length) (mjF (d + 5)) (l1 := nI (5000 * b + i)) (l2 := nI (400 * b + p.1)) (by omega) 5 0 mjN s (by omega) (by omega) c1 (fun x hx => by omega)
  have S1 := oV.S (k := 0) (oUp.V b2') S
  have U1 : UPo E.2.1 s1 p.2 := fun y hy => by rw [b4 y (by omega)]; exact p5 y hy
  have K1 : TKr E.2.1 b s1 (s1.1 133 (6 * (400 * b + p.1) + a)) (pyT E.1 E.2.1 p.1 a) := (S1.2.1.1 p.1 p2).2 a ap
  obtain ⟨s2, d1, d2, d3, d4⟩ := x_332 (d := d + 2) hn K1 (n := st.length + 1) (v := p.2) (by omega) (by rw [b3]; exact q1) p3 U1 (by rw [p4]; exact py_N hn (J.mem p2).2)
  have q2s : TSs E.2.1 b s1 (e :: st) := TSs.same hn q2 (b2'.r (by decide) (by decide) (by decide)) (b2'.r (by decide) (by decide) (by decide)) (b2'.r (by decide) (by decide) (by decide))
  obtain ⟨z, f1, f2, f3, f4, f5, f6⟩ := fit2 (d := d + 2) (k := 5000 * b + i) F.1 (oV.S (k := 0) (oT.V d2) S1) (oQ.g d2 (oUp.g b2' g)) d2 q2s d3 d4 h60 (by omega) (b_333_97 (mjF (d + 5)) 97)
  obtain ⟨s3, h3, o3, t3, w3, g3⟩ := low2 hn f4
  have oo : oQ st.length s s3 := offG.tr (oUp.Q2 b2') (f2.tr o3)
  have pre : mjF (d + 7) 323 [.ref 97, .int (nI (5000 * b + i))] (mjW0 s) = some (none, mjW0 s3) := by
    rw [e_323]
    unfold f_323 b_323_0
    rw [xg_97_54, wa_143 (by omega), row.1, hr, if_neg (by decide), if_neg (by decide), if_neg (by decide), if_neg (by decide), if_neg (by decide), if_neg (by decide), if_neg (by decide), if_neg (by decide), if_neg (by decide), if_pos rfl, xV_97, e_333]
    unfold f_333 b_333_0
    rw [xg_97_89, xg_97_92, c1, nI_pred, wa_162 (by omega), p1, show (0 : Int32) = nI 0 from rfl, b1, L333_S]
    unfold b_333_14
    rw [if_pos (Int32.le_refl _), xg_97_44, xg_97_56, wa_145 (by omega), b2'.r (h := 145) (by decide) (by decide) (by decide), row.2.2.1, lo5, i6m, wa_133 (by omega), xV_97, d1, bN_s, xg_97_82, xg_97_82, xV_97, f1]
    unfold b_333_97
    rw [xg_97_82, f3, nI_p2, xp_97_82, ← h3, bN_s]
  by_cases q : fitT E.1 E.2.1 e.1 (sty (nmL E.2.1) (pyT E.1 E.2.1 p.1 a) p.2) = true
  · rw [if_pos q] at hj
    refine gJ.ok hj S pre oo.V (by show s3.1 97 61 = 0; rw [g3]; exact f5 q) ?_ ?_ (by rw [hr]; decide) (by rw [hr]; decide)
    · rw [hx]
      exact BR.mkP hn R oo t3 w3 (by omega) (by omega) (PDs_bump R.2.1.2.1)
    · rw [oo.r (by omega), row.2.2.1, nA_o (by rw [hr]; decide) (by rw [hr]; decide) (by rw [hr]; decide) (by rw [hr]; decide) (by rw [hr]; decide) (by rw [hr]; decide)]
  · rw [if_neg q] at hj
    exact gJ.bad hj pre oo.V (by show ¬ s3.1 97 61 ≤ 0; rw [g3]; exact f6 q)
theorem j_13 (S : BS E.1 N b ks E.2.1 E.2.2.1 s) (g : gR0 s) (R : BR E.2.1 b s j x Xe) (row : Rw s (5000 * b + i) r) (hi : i < 5000) (hr : r.1 = 13) (ok : okEr 60 20 120 r x.1) : gJ E N b ks i kq Xe r j x s (mjF (d + 7) 323 [.ref 97, .int (nI (5000 * b + i))] (mjW0 s)) := by
  have J := S.1.1
  have hn := J.2.2.2.2.2.1
  have hb := J.b1
  have h60 := R.1.2.2.2
  have hl := R.1.2.2.1
  have hmj := mjN_v
  obtain ⟨n, pl, lo2, lo3, lo4, lo5⟩ := ok.2.2.2.2.2.2.2.2.2 hr
  have h61 : x.1.2.1 + 1 ≤ 60 := by
    have := ok.2.2.1
    rw [hx_13 hr] at this
    exact this
  have q1 := R.1.1
  have q2 := R.1.2.1
  obtain ⟨c1, c2, c3⟩ := R.2.1
  rw [lo2] at c2
  have pc : ∃ p pd, j.2.1 = p :: pd := by
    cases hp : j.2.1 with
    | nil => rw [hp] at c2; exact c2.elim
    | cons p pd => exact ⟨p, pd, rfl⟩
  obtain ⟨p, pd, ep⟩ := pc
  rw [ep] at c1 c2 c3
  rw [List.length_cons] at c1 c3
  obtain ⟨⟨p1, p2, p3, p4, p5, p6⟩, p7⟩ := c2
  have m384 := J.n384
  have n5 := (vK.n5 hn (p3.cl hn)).2
  have hj : jrow E r j = some (((sty (nmL E.2.1) (tyM E.1 E.2.1 p.1) p.2, false) :: j.1, pd, j.2.2.1, j.2.2.2.1, j.2.2.2.2.1, j.2.2.2.2.2.1, j.2.2.2.2.2.2.1, sty (nmL E.2.1) (tyM E.1 E.2.1 p.1) p.2 :: (jRS j).drop ((psM E.2.1 p.1).length + 1)), [(13, nI p.1, r.2.1)]) := by
    unfold jrow
    rw [hr, if_neg (by decide), if_neg (by decide), if_neg (by decide), if_neg (by decide), if_neg (by decide), if_neg (by decide), if_neg (by decide), if_neg (by decide), if_neg (by decide), if_neg (by decide), if_neg (by decide), if_neg (by decide), if_neg (by decide), if_pos rfl, ep]
  have hx : nxW r i x = ((x.1.1, x.1.2.1 + 1, x.1.2.2.1.tail, x.1.2.2.2 - nN r.2.2.1), x.2) := by
    rw [nxW_E ok.1]
    show (hxE r x.1, x.2) = _
    rw [hx_13 hr]
  obtain ⟨y, hy⟩ : ∃ y, y = uI s 97 (upd (s.1 97) 92 (nI pd.length)) := ⟨_, rfl⟩
  have y1 : ∀ h, ¬ h = 97 → y.1 h = s.1 h := fun h e => by rw [hy]; exact uI_ne _ _ _ _ e
  have y2 : ∀ a, ¬ a = 92 → y.1 97 a = s.1 97 a := fun a e => by rw [hy, uI_same, upd_g, if_neg e]
  have y3 : y.1 97 92 = nI pd.length := by rw [hy, uI_same, upd_g, if_pos rfl]
  have oy : oV (5000 * b + i) s y := by rw [hy]; exact offG.w (Or.inl ⟨rfl, by omega⟩)
  obtain ⟨s1, m', b1, b2', b3, b4⟩ := lq_323b (p := pd.length) (mjF (d + 6)) (by omega) 5 0 mjN y (by omega) (by omega) y3 (fun x hx => by omega)
  have S1 := oV.S (k := 0) (oUp.V b2') (oy.S S)
  have U1 : UPo E.2.1 s1 p.2 := fun z hz => by rw [b4 z (by omega), y1 163 (by decide)]; exact p5 z hz
  have K1 : TKr E.2.1 b s1 (s1.1 126 (400 * b + p.1)) (tyM E.1 E.2.1 p.1) := (S1.2.1.1 p.1 p2).1
  obtain ⟨s2, d1, d2, d3, d4⟩ := x_332 (d := d + 3) hn K1 (n := j.1.length) (v := p.2) (by omega) (by rw [b3, y2 82 (by decide)]; exact q1) p3 U1 (by rw [p4]; exact ty_Nm hn (J.mem p2).2)
  have pre : mjF (d + 7) 323 [.ref 97, .int (nI (5000 * b + i))] (mjW0 s) = some (none, mjW0 s2) := by
    rw [e_323]
    unfold f_323 b_323_0
    rw [xg_97_54, wa_143 (by omega), row.1, hr, if_neg (by decide), if_neg (by decide), if_neg (by decide), if_neg (by decide), if_neg (by decide), if_neg (by decide), if_neg (by decide), if_neg (by decide), if_neg (by decide), if_neg (by decide), if_pos rfl, xg_97_92, c1, nI_pred, xp_97_92, ← hy, show (0 : Int32) = nI 0 from rfl, b1, L323b_S]
    unfold b_323_388
    rw [if_pos (Int32.le_refl _), xg_97_37, xg_97_89, xg_97_92, b3, y3, wa_162 (by omega), b2'.r (h := 162) (by decide) (by decide) (by decide), y1 162 (by decide), p1, wa_126 (by omega), xV_97, d1, bN_s]
  have ov : oV (5000 * b + i) s s2 := offG.tr oy (offG.tr (oUp.V b2') (oT.V d2))
  have oq : oQ j.1.length y s2 := offG.tr (oUp.Q2 b2') (d2.Q2 (Nat.le_refl _))
  refine gJ.ok hj S pre ov (oQ.g d2 (oUp.g b2' (by show y.1 97 61 = 0; rw [y2 61 (by decide)]; exact g))) ?_ ?_ (by rw [hr]; decide) (by rw [hr]; decide)
  · rw [hx]
    have ty : TSs E.2.1 b s1 j.1 := TSs.same hn q2 (by rw [b2'.r (by decide) (by decide) (by decide), y1 155 (by decide)]) (by rw [b2'.r (by decide) (by decide) (by decide), y1 156 (by decide)]) (by rw [b2'.r (by decide) (by decide) (by decide), y1 157 (by decide)])
    obtain ⟨_, _, ⟨v1, v2⟩, ⟨e1, e2⟩, lf⟩ := R
    refine ⟨⟨d4, ⟨d3, TSs.keepT hn ty d2 (Nat.le_refl _)⟩, by rw [List.length_cons, hl], by rw [List.length_cons]; omega⟩, ⟨by rw [oq.f (by omega)]; exact y3, ?_, by show pd.length ≤ 20; omega⟩, ⟨v1.same (by rw [oq.l, hy]; rfl) (by rw [oq.r (by omega), y1 159 (by decide)]) (by rw [oq.r (by omega), y1 160 (by decide)]) (by rw [oq.r (by omega), y1 161 (by decide)]) (by rw [oq.f (by omega), y2 87 (by decide)]) (by rw [oq.r (by omega), y1 138 (by decide)]) (by rw [oq.r (by omega), y1 139 (by decide)]) (by rw [oq.r (by omega), y1 142 (by decide)]), v2⟩, ⟨by rw [oq.f (by omega), y2 88 (by decide)]; exact e1, e2⟩, by rw [oq.r (by omega), y1 145 (by decide)]; exact lf⟩
    show PDs E.2.1 b s2 pd x.1.2.2.1.tail
    rw [lo2]
    exact PDs.same hn p7 (by rw [oq.r (by omega), y1 162 (by decide)]) (by rw [oq.r (by omega), y1 163 (by decide)])
  · rw [oq.r (by omega), y1 145 (by decide), row.2.2.1, nA_o (by rw [hr]; decide) (by rw [hr]; decide) (by rw [hr]; decide) (by rw [hr]; decide) (by rw [hr]; decide) (by rw [hr]; decide)]
end MJB03
