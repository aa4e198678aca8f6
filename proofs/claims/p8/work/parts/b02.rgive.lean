/-! ===== the reference judges one order: return, =, what is told ===== -/
section MJB02
variable {T : TT} {d N b k t c n m v w p q kq Xe i : Nat} {ks : List Nat} {L : List CD} {s s' s'' s1 z : mjSt3} {tr : Bool} {E : EV} {j : JS} {x : WS} {r : Row} {u : mjU} {mm : Option Nat} {e : Nat × Bool} {st : List (Nat × Bool)}
/-- the last TYPE against one more that waits -/
theorem fit2 (Ac : ACY T N L) (S : BS T N b ks L tr s1) (g : gR0 s1) (o1 : oT (st.length + 1) s s1) (q2 : TSs L b s (e :: st)) {al : Bool} (Y1 : TY1 L b s1 (st.length + 1) w al) (h82 : s1.1 97 82 = nI (st.length + 2)) (h60 : st.length + 1 ≤ 60) (hk : k < 10000) (K : mjH → mjU) : ∃ z', bI (mjF (d + 3) 334 [.ref 97, .int (s1.1 97 82 - 2), .int (s1.1 97 82 - 1)] (mjW0 s1)) (fun v hp => if v = 0 then gR hp 97 12 55 (fun v6 => aI hp v6 (nI k) (fun v7 => rV hp 97 12 (bN (mjF (d + 3) 268 [.ref 97, .int 7, .int v7] hp) (fun hp8 => K hp8)))) else K hp) = K (mjW0 z') ∧ oQ st.length s z' ∧ z'.1 97 82 = nI (st.length + 2) ∧ TSs L b z' st ∧ (fitT T L e.1 w = true → gR0 z') ∧ (¬ fitT T L e.1 w = true → bR0 z') := by
  have hn := Ac.1
  have t1 : TSs L b s1 (e :: st) := TSs.keepT hn q2 o1 (Nat.le_refl _)
  obtain ⟨z', a1, a2, a3, a4, a5, a6, a7, a8⟩ := fitK (d := d) (n := st.length) (p := st.length) (q := st.length + 1) (k := k) Ac S g (by omega) (by omega) t1.1 Y1 hk K
  refine ⟨z', ?_, offG.tr (o1.Q2 (by omega)) a2, by rw [a3]; exact h82, TSs.same hn t1.2 a4 a5 a6, a7, a8⟩
  rw [← a1, h82, nI_p2, show nI (st.length + 2) - 1 = nI (st.length + 1) from nI_pred _]
theorem low2 (hn : HN T N L) (h2 : TSs L b z st) : ∃ s3, s3 = uI z 97 (upd (z.1 97) 82 (nI st.length)) ∧ oQ st.length z s3 ∧ TSs L b s3 st ∧ s3.1 97 82 = nI st.length ∧ s3.1 97 61 = z.1 97 61 := by
  refine ⟨_, rfl, oQ.w82, ?_, by rw [uI_same, upd_g, if_pos rfl], by rw [uI_same, upd_g, if_neg (by decide)]⟩
  exact TSs.same hn h2 (uI_ne _ _ _ _ (by decide)) (uI_ne _ _ _ _ (by decide)) (uI_ne _ _ _ _ (by decide))
theorem oQ.set (o : oQ n s z) {a : Int32} : oQ n (uI s 145 (upd (s.1 145) k a)) (uI z 145 (upd (z.1 145) k a)) := ⟨fun h y hh => by
  by_cases e : h = 145
  · subst e
    rw [uI_same, uI_same, o.r (h := 145) (by omega)]
  · rw [uI_ne _ _ _ _ e, uI_ne _ _ _ _ e]
    exact o.1 h y hh, fun h y hh => o.2.1 h y hh, o.2.2⟩
theorem j_28 (F : FX E.1 N b ks E.2.1 E.2.2.1) (S : BS E.1 N b ks E.2.1 E.2.2.1 s) (g : gR0 s) (W : NW E b mm s) (R : BR E.2.1 b s j x Xe) (row : Rw s (5000 * b + i) r) (hi : i < 5000) (hr : r.1 = 28) (lo : 1 ≤ x.1.2.1) : gJ E N b ks i kq Xe r j x s (mjF (d + 7) 323 [.ref 97, .int (nI (5000 * b + i))] (mjW0 s)) := by
  have J := S.1.1
  have hn := J.2.2.2.2.2.1
  have hb := J.b1
  have h60 := R.1.2.2.2
  have hl := R.1.2.2.1
  obtain ⟨e, st, ej⟩ := lst1 (show 1 ≤ j.1.length by omega)
  have q1 := R.1.1
  have q2 := R.1.2.1
  rw [ej] at q1 q2 hl h60
  rw [List.length_cons] at q1 hl h60
  have hj : jrow E r j = if fitT E.1 E.2.1 e.1 E.2.2.2.2.2.1 = true then some (jst j st ((jRS j).drop 1), [(9, 0, -1)]) else none := by
    unfold jrow
    rw [hr, if_neg (by decide), if_neg (by decide), if_neg (by decide), if_neg (by decide), if_neg (by decide), if_neg (by decide), if_neg (by decide), if_neg (by decide), if_neg (by decide), if_neg (by decide), if_neg (by decide), if_neg (by decide), if_neg (by decide), if_neg (by decide), if_neg (by decide), if_neg (by decide), if_neg (by decide), if_neg (by decide), if_neg (by decide), if_neg (by decide), if_neg (by decide), if_pos rfl, ej]
  have hx : nxW r i x = ((x.1.1, x.1.2.1 - 1, x.1.2.2.1, x.1.2.2.2 - 1), x.2) := nx_pop (by rw [hr]; decide) _ _
  have rt : ∃ ti, TKr E.2.1 b s ti E.2.2.2.2.2.1 ∧ mjF (d + 7) 323 [.ref 97, .int (nI (5000 * b + i))] (mjW0 s) = bN (b_335_383 (mjF (d + 5)) 97 (nI (5000 * b + i)) 97 ti (mjW0 s)) (fun hp1 => some (none, hp1)) := by
    have pre : mjF (d + 7) 323 [.ref 97, .int (nI (5000 * b + i))] (mjW0 s) = bN (if mR b mm = -1 then b_335_383 (mjF (d + 5)) 97 (nI (5000 * b + i)) 97 (-1) (mjW0 s) else aI (mjW0 s) 126 (mR b mm) (fun v46 => b_335_383 (mjF (d + 5)) 97 (nI (5000 * b + i)) 97 v46 (mjW0 s))) (fun hp1 => some (none, hp1)) := by
      rw [e_323]
      unfold f_323 b_323_0 b_323_517
      rw [xg_97_54, wa_143 (by omega), row.1, hr, if_neg (by decide), if_neg (by decide), if_neg (by decide), if_neg (by decide), if_neg (by decide), if_neg (by decide), if_neg (by decide), if_neg (by decide), if_neg (by decide), if_neg (by decide), if_neg (by decide), if_neg (by decide), if_neg (by decide), if_neg (by decide), if_neg (by decide), if_neg (by decide), if_neg (by decide), if_neg (by decide), if_neg (by decide), if_neg (by decide), if_neg (by decide), if_neg (by decide), if_neg (by decide), if_neg (by decide), if_neg (by decide), if_pos rfl, xV_97, e_335]
      unfold f_335 b_335_0
      rw [xg_97_54, wa_143 (by omega), row.1, hr, if_neg (by decide), if_neg (by decide), if_neg (by decide), if_neg (by decide), if_neg (by decide), if_neg (by decide), if_neg (by decide), if_neg (by decide), if_neg (by decide), if_neg (by decide), if_neg (by decide), if_pos rfl, xg_97_133, W.2.1, xg_97_37, xg_97_133, W.2.1]
    cases hm : mm with
    | none =>
      rw [hm] at pre
      rw [if_pos (show mR b none = -1 from rfl)] at pre
      refine ⟨-1, ?_, pre⟩
      rw [W.2.2.2.2 hm]
      rfl
    | some m =>
      rw [hm] at pre
      obtain ⟨m1, m2⟩ := W.2.2.2.1 m hm
      have m384 := J.n384
      rw [if_neg (show ¬ mR b (some m) = -1 from nI_m1 (show 400 * b + m < 2 ^ 31 by omega)), show mR b (some m) = nI (400 * b + m) from rfl, wa_126 (by omega)] at pre
      refine ⟨_, ?_, pre⟩
      rw [m2]
      exact (S.2.1.1 m m1).1
  obtain ⟨ti, rk, pre⟩ := rt
  obtain ⟨s1, a1, a2, a3, a4⟩ := x_326 (d := d + 3) hn rk (n := st.length + 1) (by omega) q1
  obtain ⟨z, b1, b2', b3, b4, b5, b6⟩ := fit2 (d := d + 2) (k := 5000 * b + i) F.1 (oV.S (k := 0) (oT.V a2) S) (oQ.g a2 g) a2 q2 a3 a4 h60 (by omega) (b_335_417 (mjF (d + 5)) 97)
  obtain ⟨s3, h3, o3, t3, w3, g3⟩ := low2 hn b4
  have oo : oQ st.length s s3 := b2'.tr o3
  unfold b_335_383 at pre
  rw [xV_97, a1, bN_s, xg_97_82, xg_97_82, xV_97, b1] at pre
  unfold b_335_417 at pre
  rw [xg_97_82, b3, nI_p2, xp_97_82, ← h3, bN_s] at pre
  by_cases q : fitT E.1 E.2.1 e.1 E.2.2.2.2.2.1 = true
  · rw [if_pos q] at hj
    refine gJ.ok hj S pre oo.V (by show s3.1 97 61 = 0; rw [g3]; exact b5 q) ?_ ?_ (by rw [hr]; decide) (by rw [hr]; decide)
    · rw [hx]
      exact BR.mkT hn R oo t3 w3 (by omega) (by omega)
    · rw [oo.r (by omega), row.2.2.1, nA_o (by rw [hr]; decide) (by rw [hr]; decide) (by rw [hr]; decide) (by rw [hr]; decide) (by rw [hr]; decide) (by rw [hr]; decide)]
  · rw [if_neg q] at hj
    exact gJ.bad hj pre oo.V (by show ¬ s3.1 97 61 ≤ 0; rw [g3]; exact b6 q)
theorem j_17 (F : FX E.1 N b ks E.2.1 E.2.2.1) (S : BS E.1 N b ks E.2.1 E.2.2.1 s) (g : gR0 s) (R : BR E.2.1 b s j x Xe) (row : Rw s (5000 * b + i) r) (hi : i < 5000) (hr : r.1 = 17 ∨ r.1 = 18) (lo : 2 ≤ x.1.2.1) (ha : r.2.2.1 = nI x.2.2.1) (hlx : ¬ x.2.2.1 = i) (hl5 : x.2.2.1 < 5000) : gJ E N b ks i kq Xe r j x s (mjF (d + 7) 323 [.ref 97, .int (nI (5000 * b + i))] (mjW0 s)) := by
  have J := S.1.1
  have hn := J.2.2.2.2.2.1
  have hb := J.b1
  have h60 := R.1.2.2.2
  have hl := R.1.2.2.1
  obtain ⟨t2, t1, st, ej⟩ := lst2 (show 2 ≤ j.1.length by omega)
  have q1 := R.1.1
  have q2 := R.1.2.1
  rw [ej] at q1 q2 hl h60
  rw [List.length_cons, List.length_cons] at q1 hl h60
  have hj : ∃ l rs, jrow E r j = if fitT E.1 E.2.1 t2.1 t1.1 = true then some (jst j st rs, l) else none := by
    unfold jrow
    rcases hr with hr | hr
    · exact ⟨_, _, by rw [hr, if_neg (by decide), if_neg (by decide), if_neg (by decide), if_neg (by decide), if_neg (by decide), if_neg (by decide), if_neg (by decide), if_neg (by decide), if_neg (by decide), if_neg (by decide), if_neg (by decide), if_neg (by decide), if_neg (by decide), if_neg (by decide), if_neg (by decide), if_pos rfl, ej]⟩
    · exact ⟨_, _, by rw [hr, if_neg (by decide), if_neg (by decide), if_neg (by decide), if_neg (by decide), if_neg (by decide), if_neg (by decide), if_neg (by decide), if_neg (by decide), if_neg (by decide), if_neg (by decide), if_neg (by decide), if_neg (by decide), if_neg (by decide), if_neg (by decide), if_neg (by decide), if_neg (by decide), if_pos rfl, ej]⟩
  obtain ⟨l, rs, hj⟩ := hj
  have hx : ∃ q', nxW r i x = ((x.1.1, x.1.2.1 - 2, x.1.2.2.1, q'), x.2) := by
    unfold nxW
    rcases hr with hr | hr
    · exact ⟨_, by rw [hr, if_neg (by decide), if_neg (by decide), if_pos rfl]⟩
    · exact ⟨_, by rw [hr, if_neg (by decide), if_neg (by decide), if_neg (by decide), if_pos rfl]⟩
  obtain ⟨q', hx⟩ := hx
  have h7 : ¬ r.1 = 7 ∧ ¬ r.1 = 14 := by rcases hr with h | h <;> · rw [h]; decide
  have nA' : nA E r j = nI j.2.2.2.2.2.2.1 := by
    unfold nA
    rcases hr with hr | hr
    · rw [hr, if_neg (by decide), if_neg (by decide), if_pos (by decide)]
    · rw [hr, if_neg (by decide), if_neg (by decide), if_pos (by decide)]
  have pre : mjF (d + 7) 323 [.ref 97, .int (nI (5000 * b + i))] (mjW0 s) = bN (b_335_68 (mjF (d + 5)) 97 (nI (5000 * b + i)) (mjW0 s)) (fun hp1 => some (none, hp1)) := by
    rw [e_323]
    unfold f_323 b_323_0 b_323_517
    rcases hr with hr | hr
    · rw [xg_97_54, wa_143 (by omega), row.1, hr, if_neg (by decide), if_neg (by decide), if_neg (by decide), if_neg (by decide), if_neg (by decide), if_neg (by decide), if_neg (by decide), if_neg (by decide), if_neg (by decide), if_neg (by decide), if_neg (by decide), if_neg (by decide), if_neg (by decide), if_neg (by decide), if_pos rfl, xV_97, e_335]
      unfold f_335 b_335_0
      rw [xg_97_54, wa_143 (by omega), row.1, hr, if_pos rfl]
    · rw [xg_97_54, wa_143 (by omega), row.1, hr, if_neg (by decide), if_neg (by decide), if_neg (by decide), if_neg (by decide), if_neg (by decide), if_neg (by decide), if_neg (by decide), if_neg (by decide), if_neg (by decide), if_neg (by decide), if_neg (by decide), if_neg (by decide), if_neg (by decide), if_neg (by decide), if_neg (by decide), if_pos rfl, xV_97, e_335]
      unfold f_335 b_335_0
      rw [xg_97_54, wa_143 (by omega), row.1, hr, if_neg (by decide), if_pos rfl]
  obtain ⟨z, b1, b2', b3, b4, b5, b6, b7, b8⟩ := fitK (d := d + 2) (n := st.length) (p := st.length + 1) (q := st.length) (k := 5000 * b + i) F.1 S g (by omega) (by omega) q2.1 q2.2.1 (by omega) (b_335_99 (mjF (d + 5)) 97 (nI (5000 * b + i)))
  have b2q : oQ st.length s z := b2'
  unfold b_335_68 at pre
  rw [xg_97_82, xg_97_82, q1, show nI (st.length + 1 + 1) - 1 = nI (st.length + 1) from nI_pred _, show nI (st.length + 1 + 1) - 2 = nI st.length from nI_p2 _, xV_97, b1] at pre
  have zk : z.1 145 = s.1 145 := b2q.r (by omega)
  have z63 : z.1 97 63 = nI b := by rw [b2q.f (by omega)]; exact J.1.2
  have left := R.2.2.2.2
  obtain ⟨y, hy⟩ : ∃ y, y = uI z 145 (upd (z.1 145) (5000 * b + i) (nI j.2.2.2.2.2.2.1)) := ⟨_, rfl⟩
  have y1 : ∀ h, ¬ h = 145 → y.1 h = z.1 h := fun h e => by rw [hy]; exact uI_ne _ _ _ _ e
  have ty : TSs E.2.1 b y st := TSs.same hn q2.2.2 (by rw [y1 155 (by decide), b4]) (by rw [y1 156 (by decide), b5]) (by rw [y1 157 (by decide), b6])
  obtain ⟨s3, h3, o3, t3, w3, g3⟩ := low2 hn ty
  unfold b_335_99 at pre
  rw [xg_97_56, xg_97_56, xg_97_63, z63, xg_97_56, wa_145 (by omega), zk, row.2.2.1, ha, show (5000 : Int32) * nI b + nI x.2.2.1 = nI (5000 * b + x.2.2.1) by rw [show (5000 : Int32) = nI 5000 from rfl, nI_mul, nI_add], wa_145 (by omega), zk, left, ws_145 (by omega), ← hy, xg_97_82, y1 97 (by decide), b3, q1, show nI (st.length + 1 + 1) - 2 = nI st.length from nI_p2 _, xp_97_82, ← h3, bN_s] at pre
  have os : oQ st.length (uI s 145 (upd (s.1 145) (5000 * b + i) (nI j.2.2.2.2.2.2.1))) s3 := by
    refine offG.tr ?_ o3
    rw [hy]
    exact oQ.set b2q
  have ov : oV (5000 * b + i) s s3 := offG.tr oV.set os.V
  by_cases q : fitT E.1 E.2.1 t2.1 t1.1 = true
  · rw [if_pos q] at hj
    refine gJ.ok hj S pre ov (by show s3.1 97 61 = 0; rw [g3, y1 97 (by decide)]; exact b7 q) ?_ ?_ h7.1 h7.2
    · rw [hx]
      exact BR.mkT hn (BR.set R hlx hn) os t3 w3 (by omega) (by omega)
    · rw [o3.r (by omega), hy, uI_same, upd_g, if_pos rfl, nA']
  · rw [if_neg q] at hj
    exact gJ.bad hj pre ov (by show ¬ s3.1 97 61 ≤ 0; rw [g3, y1 97 (by decide)]; exact b8 q)
theorem j_20 (F : FX E.1 N b ks E.2.1 E.2.2.1) (S : BS E.1 N b ks E.2.1 E.2.2.1 s) (g : gR0 s) (R : BR E.2.1 b s j x Xe) (row : Rw s (5000 * b + i) r) (hi : i < 5000) (hr : r.1 = 20) (lo : 1 ≤ x.1.2.1) (pn : x.2.2.2.1 = true) (ha : r.2.2.1 = nI x.2.1) (dp2 : j.2.2.2.2.1 ≤ 30000) : gJ E N b ks i kq Xe r j x s (mjF (d + 7) 323 [.ref 97, .int (nI (5000 * b + i))] (mjW0 s)) := by
  have J := S.1.1
  have hn := J.2.2.2.2.2.1
  have hb := J.b1
  have h60 := R.1.2.2.2
  have hl := R.1.2.2.1
  obtain ⟨e, st, ej⟩ := lst1 (show 1 ≤ j.1.length by omega)
  have q1 := R.1.1
  have q2 := R.1.2.1
  rw [ej] at q1 q2 hl h60
  rw [List.length_cons] at q1 hl h60
  have htd := R.2.2.1.2
  have V := R.2.2.1.1
  rw [pn] at V
  obtain ⟨u1, u2, u3, u4, u5, u6, u7⟩ := V
  rw [if_pos rfl] at u4 u5 u6
  obtain ⟨w1, w2, w3, w4⟩ := u7 rfl
  have hj : jrow E r j = if fitT E.1 E.2.1 e.1 j.2.2.2.2.2.1.2 = true then some ((st, j.2.1, j.2.2.1 ++ [(j.2.2.2.2.2.1.1, j.2.2.2.2.2.1.2, j.2.2.2.1, j.2.2.2.2.1)], j.2.2.2.1 + 1, j.2.2.2.2.1, j.2.2.2.2.2.1, j.2.2.2.2.2.2.1, (jRS j).drop 1), [(2, nI j.2.2.2.1, -1)]) else none := by
    unfold jrow
    rw [hr, if_neg (by decide), if_neg (by decide), if_neg (by decide), if_neg (by decide), if_neg (by decide), if_neg (by decide), if_neg (by decide), if_neg (by decide), if_neg (by decide), if_neg (by decide), if_neg (by decide), if_neg (by decide), if_neg (by decide), if_neg (by decide), if_neg (by decide), if_neg (by decide), if_neg (by decide), if_neg (by decide), if_pos rfl, ej]
  have hx : nxW r i x = ((x.1.1, x.1.2.1 - 1, x.1.2.2.1, x.1.2.2.2 - 1), x.2.1 + 1, x.2.2.1, false, x.2.2.2.2) := by
    unfold nxW
    rw [hr, if_neg (by decide), if_neg (by decide), if_neg (by decide), if_neg (by decide), if_neg (by decide), if_pos rfl]
  have t16 : j.2.2.2.1 < 16 := by omega
  have v145 : s.1 145 (5000 * b + i) = nI j.2.2.2.1 := by rw [row.2.2.1, ha, htd]
  obtain ⟨s1, a1, a2, a3, a4⟩ := x_326 (d := d + 3) hn w2 (n := st.length + 1) (by omega) q1
  obtain ⟨z, b1, b2', b3, b4, b5, b6⟩ := fit2 (d := d + 2) (k := 5000 * b + i) F.1 (oV.S (k := 0) (oT.V a2) S) (oQ.g a2 g) a2 q2 a3 a4 h60 (by omega) (b_335_296 (mjF (d + 5)) 97 (nI (5000 * b + i)))
  obtain ⟨y, hy⟩ : ∃ y, y = uI z 161 (upd (z.1 161) j.2.2.2.1 (vp_nar .boolean 1)) := ⟨_, rfl⟩
  have y1 : ∀ h, ¬ h = 161 → y.1 h = z.1 h := fun h e => by rw [hy]; exact uI_ne _ _ _ _ e
  have ty : TSs E.2.1 b y st := TSs.same hn b4 (y1 _ (by decide)) (y1 _ (by decide)) (y1 _ (by decide))
  obtain ⟨s3, h3, o3, t3, w3', g3⟩ := low2 hn ty
  have pre : mjF (d + 7) 323 [.ref 97, .int (nI (5000 * b + i))] (mjW0 s) = some (none, mjW0 s3) := by
    rw [e_323]
    unfold f_323 b_323_0 b_323_517
    rw [xg_97_54, wa_143 (by omega), row.1, hr, if_neg (by decide), if_neg (by decide), if_neg (by decide), if_neg (by decide), if_neg (by decide), if_neg (by decide), if_neg (by decide), if_neg (by decide), if_neg (by decide), if_neg (by decide), if_neg (by decide), if_neg (by decide), if_neg (by decide), if_neg (by decide), if_neg (by decide), if_neg (by decide), if_neg (by decide), if_pos rfl, xV_97, e_335]
    unfold f_335 b_335_0
    rw [xg_97_54, wa_143 (by omega), row.1, hr, if_neg (by decide), if_neg (by decide), if_neg (by decide), if_pos rfl, xg_97_84, xg_97_56, wa_145 (by omega), v145, wa_159 t16, xV_97, a1, bN_s, xg_97_82, xg_97_82, xV_97, b1]
    unfold b_335_296
    rw [xg_97_86, xg_97_56, wa_145 (by omega), b2'.r (h := 145) (by omega), v145, ws_161 t16, ← hy, xg_97_82, y1 97 (by decide), b3, nI_p2, xp_97_82, ← h3, bN_s]
  have oz : oV (5000 * b + i) s z := b2'.V
  have ov : oV (5000 * b + i) s s3 := offG.tr oz (offG.tr (show oV (5000 * b + i) z y by rw [hy]; exact offG.w (Or.inr (Or.inr (Or.inr (Or.inl ⟨by omega, by omega⟩))))) o3.V)
  have r3 : ∀ h, ¬ (h = 97 ∨ (155 ≤ h ∧ h ≤ 157) ∨ h = 165 ∨ h = 166) → ¬ h = 161 → s3.1 h = s.1 h := fun h h1 h2 => by rw [o3.r h1, y1 h h2, b2'.r h1]
  have f3 : ∀ a, ¬ (a = 61 ∨ a = 62 ∨ a = 82 ∨ a = 95) → s3.1 97 a = s.1 97 a := fun a h1 => by rw [o3.f h1, y1 97 (by decide), b2'.f h1]
  have l3 : s3.2.1 = s.2.1 := by rw [o3.l, hy]; exact b2'.l
  have k3 : ∀ a, s3.1 161 a = if a = j.2.2.2.1 then 1 else s.1 161 a := fun a => by
    rw [o3.r (h := 161) (by omega), hy, uI_same, upd_g, b2'.r (h := 161) (by omega)]
    rfl
  by_cases q : fitT E.1 E.2.1 e.1 j.2.2.2.2.2.1.2 = true
  · rw [if_pos q] at hj
    refine gJ.ok hj S pre ov (by show s3.1 97 61 = 0; rw [g3, y1 97 (by decide)]; exact b5 q) ?_ ?_ (by rw [hr]; decide) (by rw [hr]; decide)
    · rw [hx]
      obtain ⟨_, ⟨c1, c2, c3⟩, _, ⟨d1, d2⟩, lf⟩ := R
      refine ⟨⟨w3', t3, by show st.length = x.1.2.1 - 1; omega, by show st.length ≤ 60; omega⟩, ⟨by rw [f3 92 (by omega)]; exact c1, PDs.same hn c2 (r3 _ (by omega) (by decide)) (r3 _ (by omega) (by decide)), c3⟩, ⟨?_, by show j.2.2.2.1 + 1 = x.2.1 + 1; rw [htd]⟩, ⟨by rw [f3 88 (by omega)]; exact d1, d2⟩, by rw [r3 145 (by omega) (by decide)]; exact lf⟩
      have kk : ∀ {ti : Int32} {ty : Nat}, TKr E.2.1 b s ti ty → TKr E.2.1 b s3 ti ty := fun h => h.cg (r3 138 (by omega) (by decide)) (r3 139 (by omega) (by decide)) (r3 142 (by omega) (by decide))
      refine ⟨fun f hf => ?_, fun a ha' => ?_, ?_, ?_, ?_, ?_, fun h => by cases h⟩
      · rcases List.mem_append.mp hf with hf | hf
        · obtain ⟨a1, a2, a3, a4, a5, a6⟩ := u1 f hf
          refine ⟨by show f.2.2.1 < j.2.2.2.1 + 1; omega, by rw [l3]; exact a2, by rw [r3 159 (by omega) (by decide)]; exact kk a3, by rw [r3 160 (by omega) (by decide)]; exact a4, ?_, a6⟩
          rw [k3, if_neg (by omega)]; exact a5
        · have ef : f = (j.2.2.2.2.2.1.1, j.2.2.2.2.2.1.2, j.2.2.2.1, j.2.2.2.2.1) := by simpa using hf
          subst ef
          refine ⟨by show j.2.2.2.1 < j.2.2.2.1 + 1; omega, by rw [l3]; exact w1, by rw [r3 159 (by omega) (by decide)]; exact kk w2, by rw [r3 160 (by omega) (by decide)]; exact w3, ?_, dp2⟩
          rw [k3, if_pos rfl]
      · by_cases e' : a = j.2.2.2.1
        · exact Or.inr ⟨_, List.mem_append_right _ (List.mem_singleton.mpr rfl), e'.symm⟩
        · rcases u2 a (by have : a < j.2.2.2.1 + 1 := ha'; omega) with h | ⟨f, hf, ef⟩
          · exact Or.inl (by rw [k3, if_neg e']; exact h)
          · exact Or.inr ⟨f, List.mem_append_left _ hf, ef⟩
      · rw [List.pairwise_append]
        refine ⟨u3, List.pairwise_singleton _ _, fun f hf f' hf' => ?_⟩
        have ef : f' = (j.2.2.2.2.2.1.1, j.2.2.2.2.2.1.2, j.2.2.2.1, j.2.2.2.2.1) := by simpa using hf'
        rw [ef]
        exact (u1 f hf).1
      · show ∀ v, v < j.2.2.2.1 + 1 + (if false = true then 1 else 0) → _
        rw [if_neg (show ¬ false = true by decide), Nat.add_zero, r3 159 (by omega) (by decide)]
        exact u4
      · show s3.1 97 87 = nI (j.2.2.2.1 + 1 + (if false = true then 1 else 0))
        rw [if_neg (show ¬ false = true by decide), Nat.add_zero, f3 87 (by omega)]
        exact u5
      · show j.2.2.2.1 + 1 + (if false = true then 1 else 0) ≤ 16
        rw [if_neg (show ¬ false = true by decide), Nat.add_zero]
        exact u6
    · rw [r3 145 (by omega) (by decide), row.2.2.1, nA_o (by rw [hr]; decide) (by rw [hr]; decide) (by rw [hr]; decide) (by rw [hr]; decide) (by rw [hr]; decide) (by rw [hr]; decide)]
  · rw [if_neg q] at hj
    exact gJ.bad hj pre ov (by show ¬ s3.1 97 61 ≤ 0; rw [g3, y1 97 (by decide)]; exact b6 q)
end MJB02
