/-! ===== the reference: STATEMENTS ===== -/
/-- readBody's loop -/
noncomputable def lB (D m : Nat) (s : mjSt3) : mjU := L_279_12 (mjF (D + 12)) m 97 (mjW0 s)
theorem L279_S (R : mjR) (m : Nat) (a : Nat) (hp : mjH) : L_279_12 R (m + 1) a hp = b_279_12 R (L_279_12 R m) a hp := rfl
/-- the loop ends bad -/
def FB (T : TT) (b D N : Nat) (s : mjSt3) (k : Nat) (e : Nat × Nat) : Prop := ∃ s' j x, (∀ m, lB D (m + j) s = some (none, mjW0 s')) ∧ j ≤ N + 5 - k ∧ MZ T b s' e x ∧ x ≤ 4720 ∧ offS b s s'
/-- what is read is small -/
def bB (N k : Nat) (z : PB) : Prop := k < z.1 ∧ z.1 ≤ N ∧ 6 * z.2.2.2.1.length ≤ 7 * (z.1 - k) ∧ 4 * z.2.2.1.length ≤ z.1 - k ∧ z.2.1 ≤ 16
/-- behind a STATEMENT, the loop -/
def gB (tx : Nat → Int32) (n b D N : Nat) (s : mjSt3) (k o : Nat) (os : List Row) (ks : List Nat) (S : List SF) (r : PY) : Prop := match r with
  | .inl e => FB (mTT tx n) b D N s k e
  | .inr z => bB N k z ∧ ∃ s' j W', (∀ m, lB D (m + j) s = lB D m s') ∧ j + k ≤ z.1 ∧ MR tx n b s' z.1 o W' (os ++ z.2.2.2.1) (ks ++ z.2.2.1) ∧ MS s' z.2.1 S ∧ offS b s s'
/-- a BLOCK up to its } -/
def pIn (T : TT) (M : Nat) (rd : Nat → Nat → Nat → Nat → PY) (o c td kq i0 : Nat) : PY :=
  if (T c).1 = 123 then (if o = 12 then .inl (3, c) else (match pSeq T rd kq i0 M (c + 1, td, [], [(26, (T (c + 1)).2.1, 0, 0, 0)], []) with
    | .inl e => .inl e
    | .inr z => if (T z.1).1 = 125 then .inr z else .inl (F2 T z.1)))
  else .inl (F2 T c)
theorem pBlk_in (T : TT) (M : Nat) (rd : Nat → Nat → Nat → Nat → PY) (o c td kq i0 : Nat) : pBlk T M rd o c td kq i0 = (match pIn T M rd o c td kq i0 with
    | .inl e => .inl e
    | .inr z => .inr (z.1 + 1, z.2.1, z.2.2.1, z.2.2.2.1 ++ [(27, (T (z.1 + 1)).2.1, 0, 0, 0)], z.2.2.2.2)) := by
  unfold pBlk pIn
  by_cases h : (T c).1 = 123
  · rw [if_pos h, if_pos h]
    by_cases h2 : o = 12
    · rw [if_pos h2, if_pos h2]
    · rw [if_neg h2, if_neg h2]
      cases pSeq T rd kq i0 M (c + 1, td, [], [(26, (T (c + 1)).2.1, 0, 0, 0)], []) with
      | inl e => rfl
      | inr z =>
        by_cases h3 : (T z.1).1 = 125
        · simp only [if_pos h3]
        · simp only [if_neg h3]
  · rw [if_neg h, if_neg h]
section MJ90
variable {tx : Nat → Int32} {n b D k o td N : Nat} {s : mjSt3} {W : List WF} {os : List Row} {ks : List Nat} {S : List SF}
theorem lB_bad {T : TT} {e : Nat × Nat} {x : Nat} (z : MZ T b s e x) (m : Nat) : lB D (m + 1) s = some (none, mjW0 s) := by
  unfold lB
  rw [L279_S]
  unfold b_279_12 b_279_49
  rw [xg_97_61, if_neg z.n0, xg_97_61, if_neg z.n0]
theorem lB_step (h : MR tx n b s k o W os ks) (m : MS s td S) (h1 : 1 ≤ S.length) (h2 : S.length ≤ 16) (q : Nat) : lB D (q + 1) s = if (mTT tx n k).1 = 125 then bN (mjF (D + 12) 282 [.ref 97] (mjW0 s)) (fun hp => L_279_12 (mjF (D + 12)) q 97 hp) else bN (mjF (D + 12) 284 [.ref 97] (mjW0 s)) (fun hp => L_279_12 (mjF (D + 12)) q 97 hp) := by
  unfold lB
  rw [L279_S]
  unfold b_279_12
  rw [xg_97_61, h.2.1.2.1, if_pos rfl, xg_97_71, m.2.1, if_neg (nI_nle (by omega) (by omega)), xV_97, v_sign h.at (c := 125) (by decide), bI_s, i01, xV_97, xV_97]
theorem FB.via {T : TT} {s1 : mjSt3} {k1 j : Nat} {e : Nat × Nat} (h : FB T b D N s1 k1 e) (hr : ∀ m, lB D (m + j) s = lB D m s1) (ho : offS b s s1) (hj : j + k ≤ k1) (hk : k1 ≤ N) : FB T b D N s k e := by
  obtain ⟨s', j', x, a1, a2, a3, a4, a5⟩ := h
  refine ⟨s', j' + j, x, fun m => ?_, by omega, a3, a4, ho.tr a5⟩
  rw [show m + (j' + j) = (m + j') + j by omega, hr, a1]
/-- a round that ends bad -/
theorem FB.one {T : TT} {s1 : mjSt3} {e : Nat × Nat} {x : Nat} (hr : ∀ m, lB D (m + 1) s = lB D m s1) (hk : k ≤ N) (z : MZ T b s1 e x) (hx : x ≤ 4720) (ho : offS b s s1) : FB T b D N s k e :=
  ⟨s1, 2, x, fun m => by rw [show m + 2 = (m + 1) + 1 by omega, hr, lB_bad z], by omega, z, hx, ho⟩
/-- readStep: which -/
theorem st_disp (h : MR tx n b s k o W os ks) : mjF (D + 12) 284 [.ref 97] (mjW0 s) = if (mTT tx n k).1 = 123 then bN (mjF (D + 11) 280 [.ref 97, .int 1, .int (-1), .int (-1)] (mjW0 s)) (fun hp => some (none, hp)) else if tyS (mTT tx n k).1 = true then bN (mjF (D + 11) 285 [.ref 97, .int (mTT tx n k).2.1] (mjW0 s)) (fun hp => some (none, hp)) else if (mTT tx n k).1 = 15 ∨ (mTT tx n k).1 = 17 then b_284_57 (mjF (D + 11)) 97 (mTT tx n k).2.1 (mjW0 s) else if (mTT tx n k).1 = 18 then b_284_207 (mjF (D + 11)) 97 (mTT tx n k).2.1 28 (mjW0 s) else if (mTT tx n k).1 = 19 then b_284_207 (mjF (D + 11)) 97 (mTT tx n k).2.1 24 (mjW0 s) else bN (mjF (D + 11) 298 [.ref 97, .int (mTT tx n k).2.1] (mjW0 s)) (fun hp => some (none, hp)) := by
  have A := h.at
  have w11 : mjF (D + 11) 266 [.ref 97, .int 11] (mjW0 s) = _ := v_word (d := D + 10) A (w := 10) (by decide)
  have w13 : mjF (D + 11) 266 [.ref 97, .int 13] (mjW0 s) = _ := v_word (d := D + 10) A (w := 12) (by decide)
  have w14 : mjF (D + 11) 266 [.ref 97, .int 14] (mjW0 s) = _ := v_word (d := D + 10) A (w := 13) (by decide)
  have w15 : mjF (D + 11) 266 [.ref 97, .int 15] (mjW0 s) = _ := v_word (d := D + 10) A (w := 14) (by decide)
  rw [show nI (10 + 5) = 15 from rfl] at w11
  rw [show nI (12 + 5) = 17 from rfl] at w13
  rw [show nI (13 + 5) = 18 from rfl] at w14
  rw [show nI (14 + 5) = 19 from rfl] at w15
  rw [e_284]
  unfold f_284 b_284_0
  rw [xg_97_4, A.2.2.1, xV_97, v_sign A (c := 123) (by decide), bI_s, i01]
  by_cases h123 : (mTT tx n k).1 = 123
  · rw [if_pos h123, if_pos h123, xV_97]
  rw [if_neg h123, if_neg h123, xV_97, v_type A, bI_s, i01]
  by_cases ht : tyS (mTT tx n k).1 = true
  · rw [if_pos ht, if_pos ht, xV_97]
  rw [if_neg ht, if_neg ht, xV_97, w11, bI_s, i01]
  by_cases h15 : (mTT tx n k).1 = 15
  · rw [if_pos h15, if_pos (Or.inl h15)]
  rw [if_neg h15, xV_97, w13, bI_s, i01]
  by_cases h17 : (mTT tx n k).1 = 17
  · rw [if_pos h17, if_pos (Or.inr h17)]
  rw [if_neg h17, if_neg (fun q => q.elim h15 h17), xV_97, w14, bI_s, i01]
  by_cases h18 : (mTT tx n k).1 = 18
  · have n19 : ¬ (mTT tx n k).1 = 19 := by rw [h18]; decide
    rw [if_pos h18, if_pos h18]
    unfold b_284_191
    rw [xV_97, w15, bI_s, i01, if_neg n19]
  rw [if_neg h18, if_neg h18, xV_97, w15, bI_s, i01]
  by_cases h19 : (mTT tx n k).1 = 19
  · rw [if_pos h19, if_pos h19]
    unfold b_284_191
    rw [xV_97, w15, bI_s, i01, if_pos h19]
  rw [if_neg h19, if_neg h19, xV_97]
/-- a STATEMENT of one round -/
theorem gB_of {u : mjU} {r : PY} (hk : k ≤ N) (hu : ∀ m, lB D (m + 1) s = bN u (fun hp => L_279_12 (mjF (D + 12)) m 97 hp)) (g : gSt tx n b s u o os ks S r) (hz : ∀ z, r = .inr z → bB N k z) : gB tx n b D N s k o os ks S r := by
  cases r with
  | inl e =>
    obtain ⟨s1, x, e1, z1, hx, r1⟩ := g
    have R : FB (mTT tx n) b D N s k e := FB.one (fun m => by rw [hu, e1, bN_s]; rfl) hk z1 (by omega) r1
    exact R
  | inr z =>
    obtain ⟨s1, W1, e1, a1, m1, r1⟩ := g
    have B := hz z rfl
    exact ⟨B, s1, 1, W1, fun m => by rw [hu, e1, bN_s]; rfl, by have := B.1; omega, a1, m1, r1⟩
/-- STATEMENTS up to a } -/
theorem seq_ok {rd : Nat → Nat → Nat → Nat → PY} {os0 : List Row} {ks0 : List Nat} (h1 : 1 ≤ S.length) (h2 : S.length ≤ 16) (h0 : (mTT tx n N).1 = 0) (hrd : ∀ (k : Nat) (s : mjSt3) (W : List WF) (os : List Row) (ks : List Nat) (td : Nat), k ≤ N → 6 * os.length ≤ 7 * k → 4 * ks.length ≤ k → td ≤ 16 → MR tx n b s k o W os ks → MS s td S → ¬ (mTT tx n k).1 = 125 → gB tx n b D N s k o os ks S (rd k td (800 * b + ks.length) os.length)) : ∀ (q : Nat) (z : PB) (s : mjSt3) (W : List WF), N + 1 ≤ q + z.1 → z.1 ≤ N → 6 * (os0 ++ z.2.2.2.1).length ≤ 7 * z.1 → 4 * (ks0 ++ z.2.2.1).length ≤ z.1 → z.2.1 ≤ 16 → MR tx n b s z.1 o W (os0 ++ z.2.2.2.1) (ks0 ++ z.2.2.1) → MS s z.2.1 S → match pSeq (mTT tx n) rd (800 * b + ks0.length) os0.length q z with
    | .inl e => FB (mTT tx n) b D N s z.1 e
    | .inr y => (mTT tx n y.1).1 = 125 ∧ z.1 ≤ y.1 ∧ y.1 < N ∧ 6 * y.2.2.2.1.length ≤ 6 * z.2.2.2.1.length + 7 * (y.1 - z.1) ∧ 4 * y.2.2.1.length ≤ 4 * z.2.2.1.length + (y.1 - z.1) ∧ y.2.1 ≤ 16 ∧ ∃ s' j W', (∀ m, lB D (m + j) s = lB D m s') ∧ j + z.1 ≤ y.1 ∧ MR tx n b s' y.1 o W' (os0 ++ y.2.2.2.1) (ks0 ++ y.2.2.1) ∧ MS s' y.2.1 S ∧ offS b s s'
  | 0, z, s, W, hq, hz, _, _, _, _, _ => by omega
  | q + 1, z, s, W, hq, hz, hos, hks, htd, a, m => by
    unfold pSeq
    by_cases h125 : (mTT tx n z.1).1 = 125
    · rw [if_pos h125]
      have hl : z.1 < N := by
        rcases Nat.lt_or_ge z.1 N with g | g
        · exact g
        · have : z.1 = N := by omega
          rw [this, h0] at h125; exact absurd h125 (by decide)
      exact ⟨h125, Nat.le_refl _, hl, by omega, by omega, htd, s, 0, W, fun m => rfl, by omega, a, m, offG.rf⟩
    · rw [if_neg h125]
      have C := hrd z.1 s W _ _ z.2.1 hz hos hks htd a m h125
      rw [List.length_append, List.length_append, ← Nat.add_assoc] at C
      cases hd : rd z.1 z.2.1 (800 * b + ks0.length + z.2.2.1.length) (os0.length + z.2.2.2.1.length) with
      | inl e =>
        rw [hd] at C
        exact C
      | inr y =>
        rw [hd] at C
        obtain ⟨⟨b1, b2, b3, b4, b5⟩, s1, j1, W1, c1, c2, c3, c4, c5⟩ := C
        rw [List.append_assoc, List.append_assoc] at c3
        rw [List.length_append] at hos hks
        have I := seq_ok h1 h2 h0 hrd q (y.1, y.2.1, z.2.2.1 ++ y.2.2.1, z.2.2.2.1 ++ y.2.2.2.1, z.2.2.2.2 ++ y.2.2.2.2) s1 W1 (by show N + 1 ≤ q + y.1; omega) b2 (by show 6 * (os0 ++ (z.2.2.2.1 ++ y.2.2.2.1)).length ≤ 7 * y.1; rw [List.length_append, List.length_append]; omega) (by show 4 * (ks0 ++ (z.2.2.1 ++ y.2.2.1)).length ≤ y.1; rw [List.length_append, List.length_append]; omega) b5 c3 c4
        show match pSeq (mTT tx n) rd (800 * b + ks0.length) os0.length q (y.1, y.2.1, z.2.2.1 ++ y.2.2.1, z.2.2.2.1 ++ y.2.2.2.1, z.2.2.2.2 ++ y.2.2.2.2) with
          | .inl e => FB (mTT tx n) b D N s z.1 e
          | .inr y => (mTT tx n y.1).1 = 125 ∧ z.1 ≤ y.1 ∧ y.1 < N ∧ 6 * y.2.2.2.1.length ≤ 6 * z.2.2.2.1.length + 7 * (y.1 - z.1) ∧ 4 * y.2.2.1.length ≤ 4 * z.2.2.1.length + (y.1 - z.1) ∧ y.2.1 ≤ 16 ∧ ∃ s' j W', (∀ m, lB D (m + j) s = lB D m s') ∧ j + z.1 ≤ y.1 ∧ MR tx n b s' y.1 o W' (os0 ++ y.2.2.2.1) (ks0 ++ y.2.2.1) ∧ MS s' y.2.1 S ∧ offS b s s'
        cases hs : pSeq (mTT tx n) rd (800 * b + ks0.length) os0.length q (y.1, y.2.1, z.2.2.1 ++ y.2.2.1, z.2.2.2.1 ++ y.2.2.2.1, z.2.2.2.2 ++ y.2.2.2.2) with
        | inl e =>
          rw [hs] at I
          have I' : FB (mTT tx n) b D N s1 y.1 e := I
          have R : FB (mTT tx n) b D N s z.1 e := I'.via c1 c5 c2 b2
          exact R
        | inr w =>
          rw [hs] at I
          obtain ⟨d1, d2, d3, d4, d5, d6, s2, j2, W2, g1, g2, g3, g4, g5⟩ := I
          have d2' : y.1 ≤ w.1 := d2
          have d4' : 6 * w.2.2.2.1.length ≤ 6 * (z.2.2.2.1 ++ y.2.2.2.1).length + 7 * (w.1 - y.1) := d4
          have d5' : 4 * w.2.2.1.length ≤ 4 * (z.2.2.1 ++ y.2.2.1).length + (w.1 - y.1) := d5
          have g2' : j2 + y.1 ≤ w.1 := g2
          rw [List.length_append] at d4' d5'
          refine ⟨d1, by omega, d3, by omega, by omega, d6, s2, j2 + j1, W2, fun m => ?_, by omega, g3, g4, c5.tr g5⟩
          rw [show m + (j2 + j1) = (m + j2) + j1 by omega, c1, g1]
/-- a BLOCK up to its } -/
theorem blk_ok {d : Nat} {rd : Nat → Nat → Nat → Nat → PY} (F : SF) (hS : S.length < 16) (h0 : (mTT tx n N).1 = 0) (hN : N ≤ 3000) (hrd : o < 12 → ∀ (k : Nat) (s : mjSt3) (W : List WF) (os : List Row) (ks : List Nat) (td : Nat), k ≤ N → 6 * os.length ≤ 7 * k → 4 * ks.length ≤ k → td ≤ 16 → MR tx n b s k (o + 1) W os ks → MS s td (S ++ [F]) → ¬ (mTT tx n k).1 = 125 → gB tx n b D N s k (o + 1) os ks (S ++ [F]) (rd k td (800 * b + ks.length) os.length)) (ho : o ≤ 12) (hk : k ≤ N) (hos : 6 * os.length ≤ 7 * k) (hks : 4 * ks.length ≤ k) (htd : td ≤ 16) (a : MR tx n b s k o W os ks) (m : MS s td S) : match pIn (mTT tx n) (N + 1) rd o k td (800 * b + ks.length) os.length with
    | .inl e => ∃ t s' j x, mjF (d + 6) 280 [.ref 97, .int F.1, .int F.2.1, .int F.2.2] (mjW0 s) = some (none, mjW0 t) ∧ (∀ m, lB D (m + j) t = some (none, mjW0 s')) ∧ j ≤ N + 4 - k ∧ MZ (mTT tx n) b s' e x ∧ x ≤ 4720 ∧ offS b s s'
    | .inr z => (mTT tx n z.1).1 = 125 ∧ k + 1 ≤ z.1 ∧ z.1 < N ∧ 6 * z.2.2.2.1.length ≤ 6 + 7 * (z.1 - (k + 1)) ∧ 4 * z.2.2.1.length ≤ z.1 - (k + 1) ∧ z.2.1 ≤ 16 ∧ ∃ t s' j W', mjF (d + 6) 280 [.ref 97, .int F.1, .int F.2.1, .int F.2.2] (mjW0 s) = some (none, mjW0 t) ∧ (∀ m, lB D (m + j) t = lB D m s') ∧ j + k + 1 ≤ z.1 ∧ MR tx n b s' z.1 (o + 1) W' (os ++ z.2.2.2.1) (ks ++ z.2.2.1) ∧ MS s' z.2.1 (S ++ [F]) ∧ offS b s s' := by
  obtain ⟨p1, p2, p3⟩ := m_begin (d := d) a m hS (by omega) F.1 F.2.1 F.2.2
  unfold pIn
  by_cases h123 : (mTT tx n k).1 = 123
  · rw [if_pos h123]
    have hkN : k < N := lt_N hN h0 hk h123 (by decide)
    by_cases h12 : o = 12
    · rw [if_pos h12]
      obtain ⟨s1, e1, z1, r1⟩ := p2 h123 h12
      exact ⟨s1, s1, 1, _, e1, fun m => lB_bad z1 m, by omega, z1, by omega, r1⟩
    · rw [if_neg h12]
      obtain ⟨s1, e1, a1, m1, r1⟩ := p1 h123 (by omega)
      have SL : (S ++ [F]).length = S.length + 1 := by rw [List.length_append]; rfl
      have I := seq_ok (o := o + 1) (D := D) (os0 := os) (ks0 := ks) (S := S ++ [F]) (by omega) (by omega) h0 (hrd (by omega)) (N + 1) (k + 1, td, [], [(26, (mTT tx n (k + 1)).2.1, 0, 0, 0)], []) s1 W (by show N + 1 ≤ N + 1 + (k + 1); omega) (show k + 1 ≤ N from hkN) (by show 6 * (os ++ [_]).length ≤ 7 * (k + 1); rw [List.length_append]; show 6 * (os.length + 1) ≤ _; omega) (by show 4 * (ks ++ []).length ≤ k + 1; rw [List.append_nil]; omega) htd (by show MR tx n b s1 (k + 1) (o + 1) W (os ++ [(26, (mTT tx n (k + 1)).2.1, 0, 0, 0)]) (ks ++ []); rw [List.append_nil]; exact a1) m1
      cases hs : pSeq (mTT tx n) rd (800 * b + ks.length) os.length (N + 1) (k + 1, td, [], [(26, (mTT tx n (k + 1)).2.1, 0, 0, 0)], []) with
      | inl e =>
        rw [hs] at I
        obtain ⟨s2, j, x, g1, g2, g3, g4, g5⟩ := I
        have g2' : j ≤ N + 5 - (k + 1) := g2
        exact ⟨s1, s2, j, x, e1, g1, by omega, g3, g4, r1.tr g5⟩
      | inr z =>
        rw [hs] at I
        obtain ⟨d1, d2, d3, d4, d5, d6, s2, j2, W2, g1, g2, g3, g4, g5⟩ := I
        simp only [if_pos d1]
        have d4' : 6 * z.2.2.2.1.length ≤ 6 * 1 + 7 * (z.1 - (k + 1)) := d4
        have d5' : 4 * z.2.2.1.length ≤ 4 * 0 + (z.1 - (k + 1)) := d5
        have g2' : j2 + (k + 1) ≤ z.1 := g2
        exact ⟨d1, d2, d3, by omega, by omega, d6, s1, s2, j2, W2, e1, g1, by omega, g3, g4, r1.tr g5⟩
  · rw [if_neg h123]
    obtain ⟨s1, e1, z1, r1⟩ := p3 h123
    exact ⟨s1, s1, 1, _, e1, fun m => lB_bad z1 m, by omega, z1, by omega, r1⟩
end MJ90
