/-! ===== the reference judges one order: FIELDS and METHODS that are asked for ===== -/
section MJB04
variable {T : TT} {d N b k t c n m v w q kq Xe i : Nat} {ks : List Nat} {L : List CD} {s s' s'' s1 z : mjSt3} {tr : Bool} {E : EV} {j : JS} {x : WS} {r : Row} {u : mjU} {mm : Option Nat} {e : Nat × Bool} {st : List (Nat × Bool)}
theorem PDs_len : ∀ {l e : List (Nat × Nat)}, PDs L b s l e → l.length = e.length
  | [], [], _ => rfl
  | [], _ :: _, h => h.elim
  | _ :: _, [], h => h.elim
  | _ :: l, _ :: e, h => by rw [List.length_cons, List.length_cons, PDs_len h.2]
theorem tyC_neg (hn : HN T N L) (hb : b ≤ 1) {p : Nat} (h : TO1 L s p t) : (0 : Int32) ≤ tyC b t ↔ ∃ k, t = k + 2 := by
  match t, h with
  | 0, _ => exact ⟨fun x => absurd (show (0 : Int32) ≤ -1 from x) (by decide), fun ⟨k, e⟩ => by omega⟩
  | 1, _ => exact ⟨fun x => absurd (show (0 : Int32) ≤ -2 from x) (by decide), fun ⟨k, e⟩ => by omega⟩
  | k + 2, ⟨v, _⟩ =>
    have := v.cl hn
    have := hn.1
    exact ⟨fun _ => ⟨k, rfl⟩, fun _ => nI_pos' (by omega)⟩
/-- judgePart, up to the MEMBER -/
theorem x_328 (F : FX E.1 N b ks E.2.1 E.2.2.1) (S : BS E.1 N b ks E.2.1 E.2.2.1 s) (g : gR0 s) (q1 : s.1 97 82 = nI (st.length + 1)) (q2 : TSs E.2.1 b s (e :: st)) (h60 : st.length + 1 ≤ 60) (row : Rw s (5000 * b + i) r) (hi : i < 5000) (isM : Bool) (hM : isM = decide (r.1 = 11)) (K : mjH → mjU) : ∃ s2, oQ st.length s s2 ∧ match prtE E e r.2.2.2.2 isM with
    | none => bR0 s2 ∧ bN (mjF (d + 6) 328 [.ref 97, .int (nI (5000 * b + i))] (mjW0 s)) K = K (mjW0 s2)
    | some p => gR0 s2 ∧ bN (mjF (d + 6) 328 [.ref 97, .int (nI (5000 * b + i))] (mjW0 s)) K = bN (b_328_136 (mjF (d + 5)) 97 (nI (5000 * b + i)) (nI (400 * b + p.1)) (mjW0 s2)) K ∧ s2.1 97 82 = nI st.length ∧ TSs E.2.1 b s2 st ∧ UPo E.2.1 s2 p.2 ∧ p.1 < nMem E.2.1 ∧ vK E.2.1 p.2 ∧ cK p.2 = hmM E.2.1 p.1 := by
  have J := S.1.1
  have hn := J.2.2.2.2.2.1
  have hb := J.b1
  have m384 := J.n384
  obtain ⟨y, hy⟩ : ∃ y, y = uI s 97 (upd (s.1 97) 82 (nI st.length)) := ⟨_, rfl⟩
  have y1 : ∀ h, ¬ h = 97 → y.1 h = s.1 h := fun h e => by rw [hy]; exact uI_ne _ _ _ _ e
  have y2 : ∀ a, ¬ a = 82 → y.1 97 a = s.1 97 a := fun a e => by rw [hy, uI_same, upd_g, if_neg e]
  have y3 : y.1 97 82 = nI st.length := by rw [hy, uI_same, upd_g, if_pos rfl]
  have oy : oQ st.length s y := by rw [hy]; exact oQ.w82
  have Sy : BS E.1 N b ks E.2.1 E.2.2.1 y := oV.S (k := 0) oy.V S
  have gy : gR0 y := by show y.1 97 61 = 0; rw [y2 61 (by decide)]; exact g
  have Yy : TY1 E.2.1 b y st.length e.1 e.2 := q2.1.cg hn (by rw [y1 155 (by decide)]) (by rw [y1 156 (by decide)]) (fun a _ => by rw [y1 157 (by decide)])
  have rowy : y.1 143 (5000 * b + i) = r.1 ∧ y.1 144 (5000 * b + i) = r.2.1 ∧ y.2.1 147 (5000 * b + i) = r.2.2.2.2 := ⟨by rw [y1 143 (by decide)]; exact row.1, by rw [y1 144 (by decide)]; exact row.2.1, by rw [oy.l]; exact row.2.2.2.2⟩
  have pre : mjF (d + 6) 328 [.ref 97, .int (nI (5000 * b + i))] (mjW0 s) = b_328_28 (mjF (d + 5)) 97 (nI (5000 * b + i)) (b2 e.2) (mjW0 y) := by
    rw [e_328]
    unfold f_328 b_328_0
    rw [xg_97_82, q1, nI_pred, xp_97_82, ← hy, xg_97_80, xg_97_82, y3, wa_156 (by omega), Yy.2.1]
    cases e.2 with
    | true => rw [if_pos (by decide)]; rfl
    | false => rw [if_neg (by decide)]; rfl
  rw [pre]
  unfold b_328_28
  rw [xg_97_79, xg_97_82, y3, wa_155 (by omega), Yy.1]
  have tn := tyC_neg hn hb Yy.2.2
  by_cases hk : ∃ k, e.1 = k + 2
  · obtain ⟨k, ek⟩ := hk
    rw [if_pos (tn.mpr ⟨k, ek⟩)]
    have Yk : TY1 E.2.1 b y st.length (k + 2) e.2 := by rw [← ek]; exact Yy
    obtain ⟨s1, a1, a2, a3⟩ := x_329 (d := d + 4) hn (show st.length < 200 by omega) Yk
    have S1 := oV.S (k := 0) (oUp.V a2) Sy
    obtain ⟨s2, b1, b2', b3⟩ := x_316m (d := d + 2) (key := r.2.2.2.2) F.1 S1.1.1 S1.2.1.2 (fun m hm => (F.2.2.2.1 m hm).2.1) Yk.2.2.1 a3 isM
    have S2 := oV.S (k := 0) (oUp.V b2') S1
    have o2 : oQ st.length s s2 := offG.tr oy (offG.tr (oUp.Q2 a2) (oUp.Q2 b2'))
    have g2 : gR0 s2 := oUp.g b2' (oUp.g a2 gy)
    have pre2 : gI (mjW0 y) 97 12 82 (fun v4 => rV (mjW0 y) 97 12 (bN (mjF (d + 5) 329 [.ref 97, .int v4] (mjW0 y)) (fun hp5 => gR hp5 97 12 58 (fun v6 => aL hp5 v6 (nI (5000 * b + i)) (fun v7 => gR hp5 97 12 54 (fun v8 => aI hp5 v8 (nI (5000 * b + i)) (fun v9 => (if v9 = 11 then b_328_85 (mjF (d + 5)) 97 (nI (5000 * b + i)) (b2 e.2) 97 v7 1 hp5 else b_328_85 (mjF (d + 5)) 97 (nI (5000 * b + i)) (b2 e.2) 97 v7 0 hp5)))))))) = b_328_85 (mjF (d + 5)) 97 (nI (5000 * b + i)) (b2 e.2) 97 r.2.2.2.2 (b2 isM) (mjW0 s1) := by
      rw [xg_97_82, y3, xV_97, a1, bN_s, xg_97_58, wa_147 (by omega), show s1.2.1 147 = y.2.1 147 by rw [a2.l], rowy.2.2, xg_97_54, wa_143 (by omega), a2.r (h := 143) (by decide) (by decide) (by decide), rowy.1, hM]
      by_cases q : r.1 = 11
      · rw [if_pos q, decide_eq_true q]; rfl
      · rw [if_neg q, decide_eq_false q]; rfl
    rw [pre2]
    unfold b_328_85
    rw [xV_97, b1, bI_s]
    have s2row : s2.1 144 (5000 * b + i) = r.2.1 := by rw [o2.r (h := 144) (by omega)]; exact row.2.1
    have failK : ∀ (cd : Int32) (l3 : Int32), ¬ cd ≤ 0 → ∃ s3, oQ st.length s s3 ∧ bR0 s3 ∧ bN (gR (mjW0 s2) 97 12 55 (fun v8 => aI (mjW0 s2) v8 (nI (5000 * b + i)) (fun v9 => rV (mjW0 s2) 97 12 (bN (mjF (d + 5) 268 [.ref 97, .int cd, .int v9] (mjW0 s2)) (fun hp10 => b_328_174 (mjF (d + 5)) 97 (nI (5000 * b + i)) l3 hp10))))) K = K (mjW0 s3) := by
      intro cd l3 hcd
      obtain ⟨s3, c1, c2, c3⟩ := x_268 (d := d + 4) (s := s2) (Or.inl g2) (a := cd) hcd r.2.1
      refine ⟨s3, offG.tr o2 (o61.Q2 c2), c3, ?_⟩
      rw [xg_97_55, wa_144 (by omega), s2row, xV_97, c1, bN_s]
      unfold b_328_174
      rw [xg_97_61, if_neg c3, bN_s]
    have ep : prtE E e r.2.2.2.2 isM = match memT E.1 E.2.1 (cK k) r.2.2.2.2 isM with
      | some m => if (!e.2 && hidM E.1 E.2.1 m) = true then none else some (m, seenT E.1 E.2.1 k m)
      | none => none := by
      unfold prtE
      rw [ek]
      dsimp only
      cases memT E.1 E.2.1 (cK k) r.2.2.2.2 isM <;> rfl
    rw [ep]
    cases hmem : memT E.1 E.2.1 (cK k) r.2.2.2.2 isM with
    | none =>
      obtain ⟨s3, d1, d2, d3⟩ := failK 5 (-1) (by decide)
      refine ⟨s3, d1, d2, ?_⟩
      rw [if_pos (show mR b none = -1 from rfl)]
      exact d3
    | some m =>
      obtain ⟨m1, m2, m3, m4, m5⟩ := b3 m hmem
      have good : ∃ s2', oQ st.length s s2' ∧ gR0 s2' ∧ bN (b_328_136 (mjF (d + 5)) 97 (nI (5000 * b + i)) (nI (400 * b + m)) (mjW0 s2)) K = bN (b_328_136 (mjF (d + 5)) 97 (nI (5000 * b + i)) (nI (400 * b + m)) (mjW0 s2')) K ∧ s2'.1 97 82 = nI st.length ∧ TSs E.2.1 b s2' st ∧ UPo E.2.1 s2' (seenT E.1 E.2.1 k m) ∧ m < nMem E.2.1 ∧ vK E.2.1 (seenT E.1 E.2.1 k m) ∧ cK (seenT E.1 E.2.1 k m) = hmM E.2.1 m := ⟨s2, o2, g2, rfl, by rw [b2'.f (by decide), a2.f (by decide)]; exact y3, TSs.keepQ hn q2.2 o2 (Nat.le_refl _), m3.2, m1, m4, m5⟩
      rw [if_neg (show ¬ mR b (some m) = -1 from nI_m1 (show 400 * b + m < 2 ^ 31 by omega)), show mR b (some m) = nI (400 * b + m) from rfl]
      dsimp only
      cases e2 : e.2 with
      | true =>
        rw [if_neg (show ¬ b2 true = 0 by decide), if_neg (show ¬ (!true && hidM E.1 E.2.1 m) = true by simp)]
        obtain ⟨s2', h1, h2, h3, h4, h5, h6, h7, h8, h9⟩ := good
        exact ⟨s2', h1, h2, h3, h4, h5, h6, h7, h8, h9⟩
      | false =>
        rw [if_pos (show b2 false = 0 from rfl), xV_97, x_330 (d := d + 3) S2.1.1 F.2.1 F.2.2.1 m1 (F.2.2.2.1 m m1), bI_s]
        cases hh : hidM E.1 E.2.1 m with
        | true =>
          obtain ⟨s3, d1, d2, d3⟩ := failK 10 (nI (400 * b + m)) (by decide)
          rw [if_neg (show ¬ b2 true = 0 by decide), if_pos (show (!false && true) = true from rfl)]
          exact ⟨s3, d1, d2, d3⟩
        | false =>
          rw [if_pos (show b2 false = 0 from rfl), if_neg (show ¬ (!false && false) = true by decide)]
          obtain ⟨s2', h1, h2, h3, h4, h5, h6, h7, h8, h9⟩ := good
          exact ⟨s2', h1, h2, h3, h4, h5, h6, h7, h8, h9⟩
  · rw [if_neg (fun h => hk (tn.mp h))]
    obtain ⟨s3, c1, c2, c3⟩ := x_268 (d := d + 4) (s := y) (Or.inl gy) (a := 7) (by decide) r.2.1
    refine ⟨s3, offG.tr oy (o61.Q2 c2), ?_⟩
    have ep : prtE E e r.2.2.2.2 isM = none := by
      unfold prtE
      match he : e.1, hk with
      | 0, _ => rfl
      | 1, _ => rfl
      | k + 2, hk => exact absurd ⟨k, rfl⟩ hk
    rw [ep]
    refine ⟨c3, ?_⟩
    rw [xg_97_55, wa_144 (by omega), rowy.2.1, xV_97, c1, bN_s, bN_s]
theorem j_10 (F : FX E.1 N b ks E.2.1 E.2.2.1) (S : BS E.1 N b ks E.2.1 E.2.2.1 s) (g : gR0 s) (R : BR E.2.1 b s j x Xe) (row : Rw s (5000 * b + i) r) (hi : i < 5000) (hr : r.1 = 10 ∨ r.1 = 16) (lo : 1 ≤ x.1.2.1) (hlx : ¬ x.2.2.1 = i) : gJ E N b ks i kq Xe r j x s (mjF (d + 7) 323 [.ref 97, .int (nI (5000 * b + i))] (mjW0 s)) := by
  have J := S.1.1
  have hn := J.2.2.2.2.2.1
  have hb := J.b1
  have h60 := R.1.2.2.2
  have hl := R.1.2.2.1
  obtain ⟨e, st, ej⟩ := lst1 (show 1 ≤ j.1.length by omega)
  have q1 := R.1.1
  have q2 := R.1.2.1
  rw [ej] at q1 q2 hl h60
  rw [List.length_cons] at q1 hl h60
  have m384 := J.n384
  have n11 : ¬ r.1 = 11 := by rcases hr with h | h <;> · rw [h]; decide
  have h7 : ¬ r.1 = 7 ∧ ¬ r.1 = 14 := by rcases hr with h | h <;> · rw [h]; decide
  obtain ⟨s2, o2, M⟩ := x_328 (d := d) (i := i) F S g q1 q2 h60 row hi false (by rw [decide_eq_false n11]) (fun hp1 => some (none, hp1))
  have pre : mjF (d + 7) 323 [.ref 97, .int (nI (5000 * b + i))] (mjW0 s) = bN (mjF (d + 6) 328 [.ref 97, .int (nI (5000 * b + i))] (mjW0 s)) (fun hp1 => some (none, hp1)) := by
    rw [e_323]
    unfold f_323 b_323_0 b_323_360
    rcases hr with hr | hr
    · rw [xg_97_54, wa_143 (by omega), row.1, hr, if_neg (by decide), if_neg (by decide), if_neg (by decide), if_neg (by decide), if_neg (by decide), if_neg (by decide), if_neg (by decide), if_pos rfl, xV_97]
    · rw [xg_97_54, wa_143 (by omega), row.1, hr, if_neg (by decide), if_neg (by decide), if_neg (by decide), if_neg (by decide), if_neg (by decide), if_neg (by decide), if_neg (by decide), if_neg (by decide), if_neg (by decide), if_neg (by decide), if_neg (by decide), if_neg (by decide), if_neg (by decide), if_pos rfl, xV_97]
  cases hp : prtE E e r.2.2.2.2 false with
  | none =>
    rw [hp] at M
    have hj : jrow E r j = none := by
      unfold jrow
      rcases hr with hr | hr
      · rw [hr, if_neg (by decide), if_neg (by decide), if_neg (by decide), if_neg (by decide), if_neg (by decide), if_neg (by decide), if_neg (by decide), if_neg (by decide), if_neg (by decide), if_pos rfl, ej]; dsimp only; rw [hp]
      · rw [hr, if_neg (by decide), if_neg (by decide), if_neg (by decide), if_neg (by decide), if_neg (by decide), if_neg (by decide), if_neg (by decide), if_neg (by decide), if_neg (by decide), if_neg (by decide), if_pos rfl, ej]; dsimp only; rw [hp]
    exact gJ.bad hj (pre.trans M.2) o2.V M.1
  | some p =>
    rw [hp] at M
    obtain ⟨g2, e2, f82, t2, U2, p1, p2, p3⟩ := M
    have S2 := oV.S (k := 0) o2.V S
    obtain ⟨y, hy⟩ : ∃ y, y = uI s2 145 (upd (s2.1 145) (5000 * b + i) (nI (numM E.1 E.2.1 p.1))) := ⟨_, rfl⟩
    have y1 : ∀ h, ¬ h = 145 → y.1 h = s2.1 h := fun h e => by rw [hy]; exact uI_ne _ _ _ _ e
    have Sy : BS E.1 N b ks E.2.1 E.2.2.1 y := oV.S (k := 5000 * b + i) (by rw [hy]; exact oV.set) S2
    obtain ⟨s3, d1, d2, d3, d4⟩ := x_332 (d := d + 2) (s := y) hn (Sy.2.1.1 p.1 p1).1 (n := st.length) (v := p.2) (by omega) (by rw [y1 97 (by decide)]; exact f82) p2 (fun a ha => by rw [y1 165 (by decide)]; exact U2 a ha) (by rw [p3]; exact ty_Nm hn (J.mem p1).2)
    have r2 : s2.1 143 (5000 * b + i) = r.1 := by rw [o2.r (by omega)]; exact row.1
    have fin : mjF (d + 7) 323 [.ref 97, .int (nI (5000 * b + i))] (mjW0 s) = some (none, mjW0 s3) := by
      rw [pre, e2]
      unfold b_328_136
      rw [xg_97_54, wa_143 (by omega), r2, if_neg n11]
      unfold b_328_174
      rw [xg_97_61, if_pos (show s2.1 97 61 ≤ 0 by rw [show s2.1 97 61 = 0 from g2]; exact Int32.le_refl _), xg_97_54, wa_143 (by omega), r2, if_neg n11, xg_97_56, xg_97_41, wa_130 (by omega), S2.2.2.2.1 p.1 p1, ws_145 (by omega), ← hy, xg_97_37, wa_126 (by omega), xV_97, d1, bN_s, bN_s]
    have os : oQ st.length (uI s 145 (upd (s.1 145) (5000 * b + i) (nI (numM E.1 E.2.1 p.1)))) s3 := by
      refine offG.tr ?_ (d2.Q2 (Nat.le_refl _))
      rw [hy]
      exact oQ.set o2
    have ov : oV (5000 * b + i) s s3 := offG.tr oV.set os.V
    have z5 : s3.1 145 (5000 * b + i) = nI (numM E.1 E.2.1 p.1) := by rw [d2.r (by omega), hy, uI_same, upd_g, if_pos rfl]
    have g3 : gR0 s3 := oQ.g d2 (by show y.1 97 61 = 0; rw [y1 97 (by decide)]; exact g2)
    have ts : TSs E.2.1 b s3 ((sty (nmL E.2.1) (tyM E.1 E.2.1 p.1) p.2, false) :: st) := ⟨d3, TSs.keepT hn (TSs.same hn t2 (y1 _ (by decide)) (y1 _ (by decide)) (y1 _ (by decide))) d2 (Nat.le_refl _)⟩
    have nA' : nA E r j = nI (numM E.1 E.2.1 p.1) := by
      unfold nA
      rw [if_neg (by rcases hr with h | h <;> · rw [h]; decide), if_pos hr, ej]
      dsimp only
      rw [hp]
    rcases hr with hr | hr
    · have hj : jrow E r j = some (jst j ((sty (nmL E.2.1) (tyM E.1 E.2.1 p.1) p.2, false) :: st) (sty (nmL E.2.1) (tyM E.1 E.2.1 p.1) p.2 :: (jRS j).drop 1), [(12, nI (numM E.1 E.2.1 p.1), r.2.1)]) := by
        unfold jrow
        rw [hr, if_neg (by decide), if_neg (by decide), if_neg (by decide), if_neg (by decide), if_neg (by decide), if_neg (by decide), if_neg (by decide), if_neg (by decide), if_neg (by decide), if_pos rfl, ej]; dsimp only; rw [hp]
      have hx : nxW r i x = ((x.1.1, x.1.2.1, x.1.2.2.1, x.1.2.2.2), x.2) := by
        unfold nxW
        rw [hr, if_neg (by decide), if_neg (by decide), if_neg (by decide), if_neg (by decide), if_neg (by decide), if_neg (by decide), if_neg (by decide), if_neg (by decide), if_neg (by decide), if_neg (by decide)]
        unfold hxE
        rw [hr, if_neg (by decide), if_neg (by decide), if_neg (by decide), if_neg (by decide), if_neg (by decide), if_neg (by decide), if_neg (by decide)]
      refine gJ.ok hj S fin ov g3 ?_ (by rw [z5, nA']) h7.1 h7.2
      rw [hx]
      exact BR.mkT hn (BR.set R hlx hn) os ts d4 (by rw [List.length_cons, hl]) (by rw [List.length_cons]; exact h60)
    · have hj : jrow E r j = some (((sty (nmL E.2.1) (tyM E.1 E.2.1 p.1) p.2, false) :: st, j.2.1, j.2.2.1, j.2.2.2.1, j.2.2.2.2.1, j.2.2.2.2.2.1, numM E.1 E.2.1 p.1, jRS j), []) := by
        unfold jrow
        rw [hr, if_neg (by decide), if_neg (by decide), if_neg (by decide), if_neg (by decide), if_neg (by decide), if_neg (by decide), if_neg (by decide), if_neg (by decide), if_neg (by decide), if_neg (by decide), if_pos rfl, ej]; dsimp only; rw [hp]
      have hx : nxW r i x = ((x.1.1, x.1.2.1, x.1.2.2.1, x.1.2.2.2), x.2.1, i, x.2.2.2) := by
        unfold nxW
        rw [hr, if_neg (by decide), if_pos rfl]
      refine gJ.ok hj S fin ov g3 ?_ (by rw [z5, nA']) h7.1 h7.2
      rw [hx]
      exact BR.mkL hn (BR.set R hlx hn) os ts d4 (by rw [List.length_cons, hl]) (by rw [List.length_cons]; exact h60) z5
theorem L328_S (R : mjR) (n a : Nat) (b : Int32) (hp : mjH) : L_328_206 R (n + 1) a b hp = b_328_206 R (L_328_206 R n) a b hp := rfl
theorem lq_328 (R : mjR) {p : Nat} (h64 : p < 64) : ∀ (r i m : Nat) (s : mjSt3), i + r = 5 → r < m → s.1 97 92 = nI p → (∀ x, x < i → s.1 163 (5 * p + x) = s.1 165 x) → ∃ s', L_328_206 R m 97 (nI i) (mjW0 s) = some (none, mjW0 s') ∧ (∀ h, ¬ h = 97 → ¬ h = 163 → s'.1 h = s.1 h) ∧ (∀ y, ¬ y = 92 → s'.1 97 y = s.1 97 y) ∧ (∀ y, ¬ (5 * p ≤ y ∧ y < 5 * p + 5) → s'.1 163 y = s.1 163 y) ∧ s'.2 = s.2 ∧ s'.1 97 92 = nI (p + 1) ∧ ∀ x, x < 5 → s'.1 163 (5 * p + x) = s.1 165 x
  | r, i, 0, s, e, hr, h92, w => by omega
  | 0, i, m + 1, s, e, hr, h92, w => by
    refine ⟨uI s 97 (upd (s.1 97) 92 (nI (p + 1))), ?_, fun h h1 _ => uI_ne _ _ _ _ h1, fun y hy => by rw [uI_same, upd_g, if_neg hy], fun y _ => by rw [uI_ne _ _ _ _ (by decide)], rfl, by rw [uI_same, upd_g, if_pos rfl], fun x hx => by rw [uI_ne _ _ _ _ (by decide)]; exact w x (by omega)⟩
    rw [L328_S]
    unfold b_328_206
    rw [if_pos (show (5 : Int32) ≤ nI i from nI_le (a := 5) (by omega) (by omega)), xg_97_92, h92, nI_1, xp_97_92]
  | r + 1, i, m + 1, s, e, hr, h92, w => by
    obtain ⟨z, hz⟩ : ∃ z, z = uI s 163 (upd (s.1 163) (5 * p + i) (s.1 165 i)) := ⟨_, rfl⟩
    have r1 : ∀ h, ¬ h = 163 → z.1 h = s.1 h := fun h e => by rw [hz]; exact uI_ne _ _ _ _ e
    obtain ⟨s', b1, b2', b3, b4, b5, b6, b7⟩ := lq_328 R h64 r (i + 1) m z (by omega) (by omega) (by rw [r1 97 (by decide)]; exact h92) (fun x hx => by
      rw [r1 165 (by decide), hz, uI_same, upd_g]
      by_cases e' : x = i
      · rw [if_pos (by rw [e']), e']
      · rw [if_neg (by omega)]; exact w x (by omega))
    refine ⟨s', ?_, fun h h1 h2 => by rw [b2' h h1 h2, r1 h h2], fun y hy => by rw [b3 y hy, r1 97 (by decide)], fun y hy => ?_, by rw [b5, hz]; rfl, b6, fun x hx => by rw [b7 x hx, r1 165 (by decide)]⟩
    · rw [← b1, L328_S]
      unfold b_328_206
      rw [if_neg (show ¬ (5 : Int32) ≤ nI i from nI_ge (b := 5) (by omega) (by decide)), xg_97_90, xg_97_92, h92, xg_97_93, wa_165 (by omega), i5m, ws_163 (by omega), ← hz, nI_1]
    · rw [b4 y hy, hz, uI_same, upd_g, if_neg (by omega)]
theorem j_11 (F : FX E.1 N b ks E.2.1 E.2.2.1) (S : BS E.1 N b ks E.2.1 E.2.2.1 s) (g : gR0 s) (R : BR E.2.1 b s j x Xe) (row : Rw s (5000 * b + i) r) (hi : i < 5000) (hr : r.1 = 11) (ok : okEr 60 20 120 r x.1) : gJ E N b ks i kq Xe r j x s (mjF (d + 7) 323 [.ref 97, .int (nI (5000 * b + i))] (mjW0 s)) := by
  have J := S.1.1
  have hn := J.2.2.2.2.2.1
  have hb := J.b1
  have h60 := R.1.2.2.2
  have hl := R.1.2.2.1
  have hmj := mjN_v
  have lo := ok.2.2.2.2.2.2.1 (Or.inr (Or.inr (Or.inr (Or.inr hr))))
  have c20 : x.1.2.2.1.length + 1 ≤ 20 := by
    have := ok.2.2.2.1
    rw [hx_11 hr] at this
    exact this
  obtain ⟨e, st, ej⟩ := lst1 (show 1 ≤ j.1.length by omega)
  have q1 := R.1.1
  have q2 := R.1.2.1
  rw [ej] at q1 q2 hl h60
  rw [List.length_cons] at q1 hl h60
  have m384 := J.n384
  obtain ⟨k1, k2, k3⟩ := R.2.1
  have kl := PDs_len k2
  obtain ⟨s2, o2, M⟩ := x_328 (d := d) (i := i) F S g q1 q2 h60 row hi true (by rw [decide_eq_true hr]) (fun hp1 => some (none, hp1))
  have pre : mjF (d + 7) 323 [.ref 97, .int (nI (5000 * b + i))] (mjW0 s) = bN (mjF (d + 6) 328 [.ref 97, .int (nI (5000 * b + i))] (mjW0 s)) (fun hp1 => some (none, hp1)) := by
    rw [e_323]
    unfold f_323 b_323_0 b_323_360
    rw [xg_97_54, wa_143 (by omega), row.1, hr, if_neg (by decide), if_neg (by decide), if_neg (by decide), if_neg (by decide), if_neg (by decide), if_neg (by decide), if_neg (by decide), if_neg (by decide), if_pos rfl, xV_97]
  cases hp : prtE E e r.2.2.2.2 true with
  | none =>
    rw [hp] at M
    have hj : jrow E r j = none := by
      unfold jrow
      rw [hr, if_neg (by decide), if_neg (by decide), if_neg (by decide), if_neg (by decide), if_neg (by decide), if_neg (by decide), if_neg (by decide), if_neg (by decide), if_neg (by decide), if_neg (by decide), if_neg (by decide), if_pos rfl, ej]; dsimp only; rw [hp]
    exact gJ.bad hj (pre.trans M.2) o2.V M.1
  | some p =>
    rw [hp] at M
    obtain ⟨g2, e2, f82, t2, U2, p1, p2, p3⟩ := M
    have S2 := oV.S (k := 0) o2.V S
    have J2 := S2.1.1
    have n5 := (vK.n5 hn (p2.cl hn)).2
    have p6 := J2.p6 p1
    have hj : jrow E r j = if nI (psM E.2.1 p.1).length = r.2.2.2.1 then some ((st, p :: j.2.1, j.2.2), []) else none := by
      unfold jrow
      rw [hr, if_neg (by decide), if_neg (by decide), if_neg (by decide), if_neg (by decide), if_neg (by decide), if_neg (by decide), if_neg (by decide), if_neg (by decide), if_neg (by decide), if_neg (by decide), if_neg (by decide), if_pos rfl, ej]; dsimp only; rw [hp]
    have r2 : s2.1 143 (5000 * b + i) = r.1 := by rw [o2.r (by omega)]; exact row.1
    have r4 : s2.1 144 (5000 * b + i) = r.2.1 := by rw [o2.r (by omega)]; exact row.2.1
    have r6 : s2.1 146 (5000 * b + i) = r.2.2.2.1 := by rw [o2.r (by omega)]; exact row.2.2.2.1
    have f92 : s2.1 97 92 = nI j.2.1.length := by rw [o2.f (by omega)]; exact k1
    unfold b_328_136 at e2
    rw [xg_97_54, wa_143 (by omega), r2, hr, if_pos rfl, xg_97_57, wa_146 (by omega), r6, xg_97_39, wa_128 (by omega), p6.1] at e2
    by_cases q : nI (psM E.2.1 p.1).length = r.2.2.2.1
    · rw [if_pos q] at hj
      rw [if_pos q.symm] at e2
      obtain ⟨y, hy⟩ : ∃ y, y = uI s2 162 (upd (s2.1 162) j.2.1.length (nI (400 * b + p.1))) := ⟨_, rfl⟩
      have y1 : ∀ h, ¬ h = 162 → y.1 h = s2.1 h := fun h e => by rw [hy]; exact uI_ne _ _ _ _ e
      obtain ⟨s3, b1, b2', b3, b4, b5, b6, b7⟩ := lq_328 (mjF (d + 5)) (p := j.2.1.length) (by omega) 5 0 mjN y (by omega) (by omega) (by rw [y1 97 (by decide)]; exact f92) (fun x hx => by omega)
      have fin : mjF (d + 7) 323 [.ref 97, .int (nI (5000 * b + i))] (mjW0 s) = some (none, mjW0 s3) := by
        rw [pre, e2]
        unfold b_328_174
        rw [xg_97_61, if_pos (show s2.1 97 61 ≤ 0 by rw [show s2.1 97 61 = 0 from g2]; exact Int32.le_refl _), xg_97_54, wa_143 (by omega), r2, hr, if_pos rfl, xg_97_89, xg_97_92, f92, ws_162 (by omega), ← hy, show (0 : Int32) = nI 0 from rfl, b1, bN_s]
      have s3r : ∀ h, ¬ h = 97 → ¬ h = 163 → ¬ h = 162 → s3.1 h = s2.1 h := fun h h1 h2 h3 => by rw [b2' h h1 h2, y1 h h3]
      have s3f : ∀ a, ¬ a = 92 → s3.1 97 a = s2.1 97 a := fun a h1 => by rw [b3 a h1, y1 97 (by decide)]
      have s3l : s3.2 = s2.2 := by rw [b5, hy]; rfl
      have ov : oV (5000 * b + i) s s3 := offG.tr o2.V ⟨fun h a hh => by
        by_cases e1 : h = 97
        · subst e1; exact s3f a (by omega)
        · rw [s3r h e1 (by omega) (by omega)], fun h a _ => by rw [s3l], by rw [s3l]⟩
      refine gJ.ok hj S fin ov (by show s3.1 97 61 = 0; rw [s3f 61 (by decide)]; exact g2) ?_ ?_ (by rw [hr]; decide) (by rw [hr]; decide)
      · have hx : nxW r i x = ((x.1.1, x.1.2.1 - 1, (nN r.2.2.2.1, 0) :: x.1.2.2.1, x.1.2.2.2), x.2) := by
          rw [nxW_E ok.1]
          show (hxE r x.1, x.2) = _
          rw [hx_11 hr]
        rw [hx]
        obtain ⟨_, _, ⟨v1, v2⟩, ⟨d1, d2⟩, lf⟩ := R
        refine ⟨⟨by rw [s3f 82 (by decide)]; exact f82, TSs.same hn t2 (s3r _ (by decide) (by decide) (by decide)) (s3r _ (by decide) (by decide) (by decide)) (s3r _ (by decide) (by decide) (by decide)), by show st.length = x.1.2.1 - 1; omega, by show st.length ≤ 60; omega⟩, ⟨b6, ⟨⟨?_, p1, p2, p3, fun a ha => ?_, ?_⟩, ?_⟩, by show (p :: j.2.1).length ≤ 20; rw [List.length_cons]; omega⟩, ⟨v1.same (by rw [s3l]; exact congrFun o2.l 158) (by rw [s3r _ (by decide) (by decide) (by decide), o2.r (by omega)]) (by rw [s3r _ (by decide) (by decide) (by decide), o2.r (by omega)]) (by rw [s3r _ (by decide) (by decide) (by decide), o2.r (by omega)]) (by rw [s3f 87 (by decide), o2.f (by omega)]) (by rw [s3r _ (by decide) (by decide) (by decide), o2.r (by omega)]) (by rw [s3r _ (by decide) (by decide) (by decide), o2.r (by omega)]) (by rw [s3r _ (by decide) (by decide) (by decide), o2.r (by omega)]), v2⟩, ⟨by rw [s3f 88 (by decide), o2.f (by omega)]; exact d1, d2⟩, by rw [s3r 145 (by decide) (by decide) (by decide), o2.r (by omega)]; exact lf⟩
        · rw [b2' 162 (by decide) (by decide), hy, uI_same, upd_g, if_pos rfl]
        · rw [b7 a (by omega), y1 165 (by decide)]
          exact U2 a ha
        · show (psM E.2.1 p.1).length = nN r.2.2.2.1
          rw [← q, nN_nI (by omega)]
        · refine PDs.cg hn _ _ k2 (fun a ha => ⟨?_, fun a' ha' => ?_⟩)
          · rw [b2' 162 (by decide) (by decide), hy, uI_same, upd_g, if_neg (by omega), o2.r (by omega)]
          · rw [b4 _ (by omega), y1 163 (by decide), o2.r (by omega)]
      · rw [s3r 145 (by decide) (by decide) (by decide), o2.r (by omega), row.2.2.1, nA_o (by rw [hr]; decide) (by rw [hr]; decide) (by rw [hr]; decide) (by rw [hr]; decide) (by rw [hr]; decide) (by rw [hr]; decide)]
    · rw [if_neg q] at hj
      rw [if_neg (fun h => q h.symm), xg_97_55, wa_144 (by omega), r4] at e2
      obtain ⟨s3, c1, c2, c3⟩ := x_268 (d := d + 4) (s := s2) (Or.inl g2) (a := 6) (by decide) r.2.1
      rw [xV_97, c1, bN_s] at e2
      unfold b_328_174 at e2
      rw [xg_97_61, if_neg c3, bN_s] at e2
      exact gJ.bad hj (pre.trans e2) (offG.tr o2.V (o61.V c2)) c3
end MJB04
