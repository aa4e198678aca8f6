/-! ===== the reference judges one order: KINDS ===== -/
section MJB05
variable {T : TT} {d N b k t c n m v w p q kq Xe i lo hi X : Nat} {ks zk : List Nat} {L : List CD} {s s' s'' s1 z : mjSt3} {tr : Bool} {E : EV} {j : JS} {x : WS} {r : Row} {u : mjU} {mm : Option Nat} {e : Nat × Bool} {st : List (Nat × Bool)}
/-- a KIND of the BLOCK is judged -/
theorem kindS (F : FX E.1 N b ks E.2.1 E.2.2.1) (B : BK E.1 N b ks E.2.1 lo hi kq zk) (hkt : E.2.2.2.1 = ktL (800 * b) ks) (S : BS E.1 N b ks E.2.1 E.2.2.1 s) (g : gR0 s) (W : NW E b mm s) (h1 : kq ≤ X) (h2 : X < kq + zk.length) : X < 1600 ∧ ∃ s', mjF (d + 4) 313 [.ref 97, .int (nI X), .int (cR b E.2.2.2.2.1)] (mjW0 s) = some (none, mjW0 s') ∧ oTy (fun x => nI X = nI x ∧ x < 1600) s s' ∧ BS E.1 N b ks E.2.1 E.2.2.1 s' ∧ GR s' ∧ (kdE E (nI X) = none → bR0 s') ∧ ∀ k, kdE E (nI X) = some k → gR0 s' ∧ TKr E.2.1 b s' (nI X) (k + 2) := by
  obtain ⟨t, t1, t2, t3, t4, t5, t6, t7, t8⟩ := B.ty F.2.2.2.2 h1 h2
  have l750 := S.1.1.2.2.2.1
  have hb := S.1.1.b1
  have tl := (List.getElem?_eq_some_iff.mp t7).1
  refine ⟨by omega, ?_⟩
  obtain ⟨s', a1, a2, a3, a4, a5⟩ := x_313 (d := d) (h := E.2.2.2.2.1) S.1.1 S.1.2.1 S.1.2.2.1 S.1.2.2.2 W.2.2.1 t2 t3 (Or.inl g)
  have ek : E.2.2.2.1 (nI X) = t := by
    rw [hkt]
    unfold ktL
    rw [nN_nI (by omega), t7]
    rfl
  have ekd : kdE E (nI X) = match kdT E.1 E.2.1 E.2.2.2.2.1 false t with
    | some k => if (E.2.2.1 || nsT E.1 E.2.1 E.2.2.2.2.1 k) = true then some k else none
    | none => none := by
    unfold kdE
    rw [ek]
    cases kdT E.1 E.2.1 E.2.2.2.2.1 false t <;> rfl
  refine ⟨s', a1, a2, BS.ty F B S t2 t5 t6 a2, a3, fun h => ?_, fun k h => ?_⟩
  · refine a3.ng (fun h0 => ?_)
    obtain ⟨k, k1, k2⟩ := (a4.mp h0).2 t4
    rw [ekd, k1] at h
    dsimp only at h
    rw [if_pos k2] at h
    cases h
  · rw [ekd] at h
    cases hk : kdT E.1 E.2.1 E.2.2.2.2.1 false t with
    | none => rw [hk] at h; cases h
    | some k' =>
      rw [hk] at h
      dsimp only at h
      by_cases q : (E.2.2.1 || nsT E.1 E.2.1 E.2.2.2.2.1 k') = true
      · rw [if_pos q] at h
        have e : k' = k := Option.some.inj h
        have g' : gR0 s' := a4.mpr ⟨g, fun _ => ⟨k', hk, q⟩⟩
        refine ⟨g', ?_⟩
        have := a5 g'
        unfold tyT at this
        rw [if_neg t4, hk, e] at this
        exact this
      · rw [if_neg q] at h; cases h
theorem VB.ty {vs : List VE} {td dp : Nat} {pn : Bool} {nw : Int64 × Nat} (hn : HN T N L) (V : VB L b s vs td pn nw dp X Xe) (hX : X < Xe) (o : oTy (fun x => nI X = nI x ∧ x < 1600) s s') : VB L b s' vs td pn nw dp X Xe := by
  obtain ⟨v1, v2, v3, v4, v5, v6, v7⟩ := V
  have rr : ∀ h, ¬ h = 97 → ¬ h = 139 → ¬ h = 142 → s'.1 h = s.1 h := fun h h1 h2 h3 => o.r h1 h2 h3
  have kk : ∀ v ty, v < td + (if pn = true then 1 else 0) → TKr L b s (s.1 159 v) ty → TKr L b s' (s'.1 159 v) ty := by
    intro v ty hv K
    rw [rr 159 (by decide) (by decide) (by decide)]
    exact K.keep hn o (fun k _ e1 e2 => v4 v hv X (Nat.le_refl _) hX (by rw [e1, e2.1]))
  refine ⟨fun e he => ?_, ?_, v3, ?_, ?_, v6, fun hp => ?_⟩
  · obtain ⟨a1, a2, a3, a4, a5, a6⟩ := v1 e he
    exact ⟨a1, by rw [o.l]; exact a2, kk _ _ (by omega) a3, by rw [rr 160 (by decide) (by decide) (by decide)]; exact a4, by rw [rr 161 (by decide) (by decide) (by decide)]; exact a5, a6⟩
  · rw [rr 161 (by decide) (by decide) (by decide)]; exact v2
  · rw [rr 159 (by decide) (by decide) (by decide)]; exact v4
  · rw [o.f (by decide) (by decide)]; exact v5
  · obtain ⟨a1, a2, a3, a4⟩ := v7 hp
    exact ⟨by rw [o.l]; exact a1, kk _ _ (by rw [hp, if_pos rfl]; omega) a2, by rw [rr 160 (by decide) (by decide) (by decide)]; exact a3, by rw [rr 161 (by decide) (by decide) (by decide)]; exact a4⟩
/-- all that the judge goes by, a KIND more -/
theorem BR.ty (hn : HN T N L) (R : BR L b s j x Xe) (hX : x.1.1 < Xe) (o : oTy (fun y => nI x.1.1 = nI y ∧ y < 1600) s s') : BR L b s' j ((x.1.1 + 1, x.1.2), x.2) Xe := by
  obtain ⟨⟨t1, t2, t3, t4⟩, ⟨c1, c2, c3⟩, ⟨v1, v2⟩, ⟨d1, d2⟩, l⟩ := R
  have rr : ∀ h, ¬ h = 97 → ¬ h = 139 → ¬ h = 142 → s'.1 h = s.1 h := fun h h1 h2 h3 => o.r h1 h2 h3
  have v3 := VB.ty hn v1 hX o
  refine ⟨⟨by rw [o.f (by decide) (by decide)]; exact t1, TSs.same hn t2 (rr _ (by decide) (by decide) (by decide)) (rr _ (by decide) (by decide) (by decide)) (rr _ (by decide) (by decide) (by decide)), t3, t4⟩, ⟨by rw [o.f (by decide) (by decide)]; exact c1, PDs.same hn c2 (rr _ (by decide) (by decide) (by decide)) (rr _ (by decide) (by decide) (by decide)), c3⟩, ⟨⟨v3.1, v3.2.1, v3.2.2.1, fun v hv k h1 h2 => v3.2.2.2.1 v hv k (by have : x.1.1 + 1 ≤ k := h1; omega) h2, v3.2.2.2.2⟩, v2⟩, ⟨by rw [o.f (by decide) (by decide)]; exact d1, d2⟩, by rw [rr 145 (by decide) (by decide) (by decide)]; exact l⟩
theorem oTy.J3 (o : oTy (fun y => nI X = nI y ∧ y < 1600) s s') (h1 : lo ≤ X) (h2 : X < hi) (h3 : X < 1600) : oJd k lo hi s s' := oTy.J2 o (fun y hy => by
  have := (nI_eq (by omega) (by omega)).mp hy.1
  omega)
theorem j_7 (F : FX E.1 N b ks E.2.1 E.2.2.1) (B : BK E.1 N b ks E.2.1 lo hi kq zk) (hkt : E.2.2.2.1 = ktL (800 * b) ks) (S : BS E.1 N b ks E.2.1 E.2.2.1 s) (g : gR0 s) (W : NW E b mm s) (R : BR E.2.1 b s j x (kq + zk.length)) (row : Rw s (5000 * b + i) r) (hi : i < 5000) (hr : r.1 = 7) (ok : okEr 60 20 120 r x.1) (hX2 : x.1.1 < kq + zk.length) (hX1 : kq ≤ x.1.1) : gJ E N b ks i x.1.1 (kq + zk.length) r j x s (mjF (d + 7) 323 [.ref 97, .int (nI (5000 * b + i))] (mjW0 s)) := by
  have J := S.1.1
  have hn := J.2.2.2.2.2.1
  have hb := J.b1
  have h60 := R.1.2.2.2
  have hl := R.1.2.2.1
  have ha := ok.2.1 (Or.inl hr)
  have h61 : x.1.2.1 + 1 ≤ 60 := by
    have := ok.2.2.1
    unfold hxE at this
    rw [hr, if_neg (by decide), if_pos rfl] at this
    exact this
  obtain ⟨X16, s1, a1, a2, a3, a4, a5, a6⟩ := kindS (d := d + 2) F B hkt S g W hX1 hX2
  have hx : nxW r i x = ((x.1.1 + 1, x.1.2.1 + 1, x.1.2.2.1, x.1.2.2.2 + 1), x.2) := by
    rw [nxW_E ok.1]
    show (hxE r x.1, x.2) = _
    unfold hxE
    rw [hr, if_neg (by decide), if_pos rfl]
  have hj : jrow E r j = match kdE E r.2.2.1 with
    | none => none
    | some k => some (jpush j (k + 2) false ((k + 2) :: jRS j), [(14, nI k, r.2.1)]) := by
    unfold jrow
    rw [hr, if_neg (by decide), if_neg (by decide), if_neg (by decide), if_neg (by decide), if_neg (by decide), if_pos rfl]
    cases kdE E r.2.2.1 <;> rfl
  have pre : mjF (d + 7) 323 [.ref 97, .int (nI (5000 * b + i))] (mjW0 s) = if s1.1 97 61 = 0 then bN (mjF (d + 6) 326 [.ref 97, .int (nI x.1.1)] (mjW0 s1)) (fun hp23 => some (none, hp23)) else some (none, mjW0 s1) := by
    rw [e_323]
    unfold f_323 b_323_0
    rw [xg_97_54, wa_143 (by omega), row.1, hr, if_neg (by decide), if_neg (by decide), if_neg (by decide), if_neg (by decide), if_pos rfl, xg_97_56, wa_145 (by omega), row.2.2.1, ha, xg_97_132, W.1, xV_97, a1, bN_s, xg_97_61, xg_97_56, wa_145 (by omega), a2.r (h := 145) (by decide) (by decide) (by decide), row.2.2.1, ha, xV_97]
  have oj : oJd (5000 * b + i) x.1.1 (kq + zk.length) s s1 := oTy.J3 a2 (Nat.le_refl _) hX2 X16
  rw [ha] at hj
  cases hk : kdE E (nI x.1.1) with
  | none =>
    rw [hk] at hj
    have g1 := a5 hk
    rw [if_neg g1.ng] at pre
    exact ⟨s1, pre, oj, by rw [hj]; exact g1⟩
  | some k =>
    rw [hk] at hj
    obtain ⟨g1, K1⟩ := a6 k hk
    have R1 := BR.ty hn R hX2 a2
    obtain ⟨s2, b1, b2', b3, b4⟩ := x_326 (d := d + 4) hn K1 (n := j.1.length) (by omega) R1.1.1
    rw [if_pos (show s1.1 97 61 = 0 from g1), b1, bN_s] at pre
    refine ⟨s2, pre, offG.tr oj (oV.J2 (oT.V b2')), ?_⟩
    rw [hj]
    refine ⟨oQ.g b2' g1, oV.S (k := 0) (oT.V b2') a3, ?_, ?_, fun _ k' hk' => ?_⟩
    · rw [hx]
      exact BR.mkT hn R1 (b2'.Q2 (Nat.le_refl _)) (st := (k + 2, false) :: j.1) ⟨b3, TSs.keepT hn R1.1.2.1 b2' (Nat.le_refl _)⟩ b4 (by rw [List.length_cons, hl]) (by rw [List.length_cons]; omega)
    · rw [b2'.r (by omega), a2.r (by decide) (by decide) (by decide), row.2.2.1, nA_o (by rw [hr]; decide) (by rw [hr]; decide) (by rw [hr]; decide) (by rw [hr]; decide) (by rw [hr]; decide) (by rw [hr]; decide)]
    · rw [ha] at hk' ⊢
      rw [hk] at hk'
      rw [← Option.some.inj hk']
      exact K1.cg (b2'.r (by omega)) (b2'.r (by omega)) (b2'.r (by omega))
theorem j_14 (F : FX E.1 N b ks E.2.1 E.2.2.1) (B : BK E.1 N b ks E.2.1 lo hi kq zk) (hkt : E.2.2.2.1 = ktL (800 * b) ks) (S : BS E.1 N b ks E.2.1 E.2.2.1 s) (g : gR0 s) (W : NW E b mm s) (R : BR E.2.1 b s j x (kq + zk.length)) (row : Rw s (5000 * b + i) r) (hi : i < 5000) (hr : r.1 = 14) (ok : okEr 60 20 120 r x.1) (hX2 : x.1.1 < kq + zk.length) (hX1 : kq ≤ x.1.1) : gJ E N b ks i x.1.1 (kq + zk.length) r j x s (mjF (d + 7) 323 [.ref 97, .int (nI (5000 * b + i))] (mjW0 s)) := by
  have J := S.1.1
  have hn := J.2.2.2.2.2.1
  have hb := J.b1
  have h60 := R.1.2.2.2
  have hl := R.1.2.2.1
  have ha := ok.2.1 (Or.inr hr)
  have lo1 := ok.2.2.2.2.2.2.1 (Or.inr (Or.inr (Or.inr (Or.inl hr))))
  obtain ⟨e, st, ej⟩ := lst1 (show 1 ≤ j.1.length by omega)
  have q1 := R.1.1
  have q2 := R.1.2.1
  rw [ej] at q1 q2 hl h60
  rw [List.length_cons] at q1 hl h60
  obtain ⟨X16, s1, a1, a2, a3, a4, a5, a6⟩ := kindS (d := d + 2) F B hkt S g W hX1 hX2
  have hx : nxW r i x = ((x.1.1 + 1, x.1.2.1, x.1.2.2.1, x.1.2.2.2), x.2) := by
    rw [nxW_E ok.1]
    show (hxE r x.1, x.2) = _
    rw [hx_14 hr]
  have hj : jrow E r j = match kdE E r.2.2.1 with
    | none => none
    | some k => if e.1 = 0 then none else some (jst j ((k + 2, false) :: st) ((k + 2) :: (jRS j).drop 1), [(15, nI k, r.2.1)]) := by
    unfold jrow
    rw [hr, if_neg (by decide), if_neg (by decide), if_neg (by decide), if_neg (by decide), if_neg (by decide), if_neg (by decide), if_neg (by decide), if_neg (by decide), if_neg (by decide), if_neg (by decide), if_neg (by decide), if_neg (by decide), if_neg (by decide), if_neg (by decide), if_pos rfl, ej]
    dsimp only
    cases kdE E r.2.2.1 <;> rfl
  have c1 : s1.1 97 82 = nI (st.length + 1) := by rw [a2.f (by decide) (by decide)]; exact q1
  have c2 : s1.1 155 st.length = tyC b e.1 := by rw [a2.r (by decide) (by decide) (by decide)]; exact q2.1.1
  have c3 : s1.1 144 (5000 * b + i) = r.2.1 := by rw [a2.r (by decide) (by decide) (by decide)]; exact row.2.1
  have c4 : s1.1 145 (5000 * b + i) = nI x.1.1 := by rw [a2.r (by decide) (by decide) (by decide), row.2.2.1, ha]
  have pre : mjF (d + 7) 323 [.ref 97, .int (nI (5000 * b + i))] (mjW0 s) = if s1.1 97 61 = 0 then (if tyC b e.1 = -1 then bN (mjF (d + 6) 268 [.ref 97, .int 7, .int r.2.1] (mjW0 s1)) (fun hp51 => b_323_487 (mjF (d + 6)) 97 (nI (5000 * b + i)) hp51) else b_323_487 (mjF (d + 6)) 97 (nI (5000 * b + i)) (mjW0 s1)) else b_323_487 (mjF (d + 6)) 97 (nI (5000 * b + i)) (mjW0 s1) := by
    rw [e_323]
    unfold f_323 b_323_0
    rw [xg_97_54, wa_143 (by omega), row.1, hr, if_neg (by decide), if_neg (by decide), if_neg (by decide), if_neg (by decide), if_neg (by decide), if_neg (by decide), if_neg (by decide), if_neg (by decide), if_neg (by decide), if_neg (by decide), if_neg (by decide), if_pos rfl, xg_97_56, wa_145 (by omega), row.2.2.1, ha, xg_97_132, W.1, xV_97, a1, bN_s, xg_97_61, xg_97_79, xg_97_82, c1, nI_pred, wa_155 (by omega), c2, xg_97_55, wa_144 (by omega), c3, xV_97]
  have oj : oJd (5000 * b + i) x.1.1 (kq + zk.length) s s1 := oTy.J3 a2 (Nat.le_refl _) hX2 X16
  have ty := tyC_0 hn hb q2.1.2.2
  have low : ∀ z : mjSt3, z.1 97 82 = nI (st.length + 1) → ¬ z.1 97 61 = 0 → b_323_487 (mjF (d + 6)) 97 (nI (5000 * b + i)) (mjW0 z) = some (none, mjW0 (uI z 97 (upd (z.1 97) 82 (nI st.length)))) := by
    intro z z1 z2
    unfold b_323_487
    rw [xg_97_82, z1, nI_pred, xp_97_82, xg_97_61, if_neg (show ¬ (uI z 97 (upd (z.1 97) 82 (nI st.length))).1 97 61 = 0 by rw [uI_same, upd_g, if_neg (by decide)]; exact z2)]
  have bad : ∀ z : mjSt3, bR0 z → bR0 (uI z 97 (upd (z.1 97) 82 (nI st.length))) := fun z hz => by
    show ¬ (uI z 97 (upd (z.1 97) 82 (nI st.length))).1 97 61 ≤ 0
    rw [uI_same, upd_g, if_neg (by decide)]
    exact hz
  have ow : ∀ z : mjSt3, oV (5000 * b + i) z (uI z 97 (upd (z.1 97) 82 (nI st.length))) := fun z => oQ.V (n := 0) oQ.w82
  rw [ha] at hj
  cases hk : kdE E (nI x.1.1) with
  | none =>
    rw [hk] at hj
    have g1 := a5 hk
    rw [if_neg g1.ng, low s1 c1 g1.ng] at pre
    exact ⟨_, pre, offG.tr oj (oV.J2 (ow s1)), by rw [hj]; exact bad s1 g1⟩
  | some k =>
    rw [hk] at hj
    obtain ⟨g1, K1⟩ := a6 k hk
    rw [if_pos (show s1.1 97 61 = 0 from g1)] at pre
    dsimp only at hj
    by_cases q : e.1 = 0
    · rw [if_pos q] at hj
      obtain ⟨s2, b1, b2', b3⟩ := x_268 (d := d + 5) (s := s1) (Or.inl g1) (a := 7) (by decide) r.2.1
      rw [if_pos (ty.mpr q), b1, bN_s, low s2 (by rw [b2'.1 97 82 (by omega)]; exact c1) b3.ng] at pre
      exact ⟨_, pre, offG.tr oj (offG.tr (oV.J2 (o61.V b2')) (oV.J2 (ow s2))), by rw [hj]; exact bad s2 b3⟩
    · rw [if_neg q] at hj
      have R1 := BR.ty hn R hX2 a2
      obtain ⟨y, hy⟩ : ∃ y, y = uI s1 97 (upd (s1.1 97) 82 (nI st.length)) := ⟨_, rfl⟩
      have y1 : ∀ h, ¬ h = 97 → y.1 h = s1.1 h := fun h e => by rw [hy]; exact uI_ne _ _ _ _ e
      have y3 : y.1 97 82 = nI st.length := by rw [hy, uI_same, upd_g, if_pos rfl]
      have gy : gR0 y := by show y.1 97 61 = 0; rw [hy, uI_same, upd_g, if_neg (by decide)]; exact g1
      have oy : oQ st.length s1 y := by rw [hy]; exact oQ.w82
      obtain ⟨s2, b1, b2', b3, b4⟩ := x_326 (d := d + 4) (s := y) hn (K1.cg (y1 _ (by decide)) (y1 _ (by decide)) (y1 _ (by decide))) (n := st.length) (by omega) y3
      have t1 := R1.1.2.1
      rw [ej] at t1
      have oq : oQ st.length s1 s2 := offG.tr oy (b2'.Q2 (Nat.le_refl _))
      rw [if_neg (fun h => q (ty.mp h))] at pre
      unfold b_323_487 at pre
      rw [xg_97_82, c1, nI_pred, xp_97_82, ← hy, xg_97_61, if_pos (show y.1 97 61 = 0 from gy), xg_97_56, wa_145 (by omega), y1 145 (by decide), c4, xV_97, b1, bN_s] at pre
      refine ⟨s2, pre, offG.tr oj (oV.J2 oq.V), ?_⟩
      rw [hj]
      refine ⟨oQ.g b2' gy, oV.S (k := 0) oq.V a3, ?_, ?_, fun _ k' hk' => ?_⟩
      · rw [hx]
        exact BR.mkT hn R1 oq (st := (k + 2, false) :: st) ⟨b3, TSs.keepQ hn t1.2 oq (Nat.le_refl _)⟩ b4 (by rw [List.length_cons, hl]) (by rw [List.length_cons]; exact h60)
      · rw [oq.r (by omega), c4, ← ha, nA_o (by rw [hr]; decide) (by rw [hr]; decide) (by rw [hr]; decide) (by rw [hr]; decide) (by rw [hr]; decide) (by rw [hr]; decide)]
      · rw [ha] at hk' ⊢
        rw [hk] at hk'
        rw [← Option.some.inj hk']
        exact K1.cg (oq.r (by omega)) (oq.r (by omega)) (oq.r (by omega))
end MJB05
