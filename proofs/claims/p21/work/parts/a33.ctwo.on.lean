section
/-! ===== the Coder: two values and an operator ===== -/
theorem opr_nbr {K : Int32} (h : isCmp K = true ∨ isSum K = true ∨ isPro K = true) : opr (nbr K 0) = (if K = 37 then 21 else if K = 42 then 19 else if K = 43 then 17 else if K = 45 then 18 else if K = 47 then 20 else if K = 60 then 22 else if K = 200 then 23 else 24) := by
  unfold isCmp isSum isPro at h
  simp only [decide_eq_true_eq] at h
  rcases h with (h | h | h) | (h | h) | (h | h | h) <;> subst h <;> decide
/-- the TYPES of two values that an operator takes -/
def tcd (K : Int32) (t1 t2 : Nat) : Prop := if nbr K 0 = 257 ∨ nbr K 0 = 258 then (t1 = 0 ↔ t2 = 0) else (t1 = 0 ∧ t2 = 0)
theorem tcd_n {K : Int32} {t1 t2 : Nat} (h : isSum K = true ∨ isPro K = true ∨ K = 60) : tcd K t1 t2 ↔ (t1 = 0 ∧ t2 = 0) := by
  have : ¬ (nbr K 0 = 257 ∨ nbr K 0 = 258) := by
    unfold isSum isPro at h
    simp only [decide_eq_true_eq] at h
    rcases h with (h | h) | (h | h | h) | h <;> subst h <;> decide
  unfold tcd
  rw [if_neg this]
theorem tcd_e {K : Int32} {t1 t2 : Nat} (h : K = 200 ∨ K = 201) : tcd K t1 t2 ↔ (t1 = 0 ↔ t2 = 0) := by
  have : nbr K 0 = 257 ∨ nbr K 0 = 258 := by
    rcases h with h | h <;> subst h <;> decide
  unfold tcd
  rw [if_pos this]
theorem pLoop_pre {T : TT} {sg : Int32 → Bool} {rd : Nat → Nat → PX} {kq : Nat} (hr : ∀ c kq x, rd c kq = .inr x → c < x.1) : ∀ (k : Nat) (z y : PZ), pLoop T sg rd kq k z = .inr y → z.1 ≤ y.1 ∧ ∃ a b c, y.2.2.1 = z.2.2.1 ++ a ∧ y.2.2.2.1 = z.2.2.2.1 ++ b ∧ y.2.2.2.2 = z.2.2.2.2 ++ c
  | 0, z, y, h => by cases h; exact ⟨Nat.le_refl _, [], [], [], (List.append_nil _).symm, (List.append_nil _).symm, (List.append_nil _).symm⟩
  | k + 1, z, y, h => by
    unfold pLoop at h
    by_cases g : sg (T z.1).1 = true
    · rw [if_pos g] at h
      cases hd : rd (z.1 + 1) (kq + z.2.2.1.length) with
      | inl e => rw [hd] at h; cases h
      | inr x =>
        rw [hd] at h
        have := hr _ _ _ hd
        obtain ⟨h1, a, b, c, h2, h3, h4⟩ := pLoop_pre hr k _ y h
        dsimp only at h1 h2 h3 h4
        exact ⟨by omega, _, _, _, by rw [h2, List.append_assoc], by rw [h3, List.append_assoc, List.append_assoc], by rw [h4, List.append_assoc]⟩
    · rw [if_neg g] at h
      cases h
      exact ⟨Nat.le_refl _, [], [], [], (List.append_nil _).symm, (List.append_nil _).symm, (List.append_nil _).symm⟩
theorem pLoop_end {T : TT} {sg : Int32 → Bool} {rd : Nat → Nat → PX} {kq k : Nat} {z y : PZ} (h : pLoop T sg rd kq k z = .inr y) (h61 : (T z.1).1 = 61) (hs : sg 61 = false) : y = z := by
  cases k with
  | zero => cases h; rfl
  | succ k =>
    unfold pLoop at h
    rw [if_neg (by rw [h61, hs]; decide)] at h
    cases h; rfl
section MJA33
variable {E : EV} {d N q c t n e k u v i m o w cs c0 c1 c2 kq nt t1 t2 D me : Nat} {s s1 s2 s' s0 : mjSt3} {j j0 : JS} {y z : PZ} {os os1 os2 : List Row} {l l1 l2 : List Ins} {al al1 al2 : Bool}
theorem two_row (x K : Int32) (h : tcd K t1 t2) : jrow E (9, x, nbr K 0, 0, 0) (jE (jE j0 t1 al1) t2 al2) = some (jE j0 0 false, [(opr (nbr K 0), 0, x)]) := if_pos h
theorem two_no (x K : Int32) (h : ¬ tcd K t1 t2) : jrow E (9, x, nbr K 0, 0, 0) (jE (jE j0 t1 al1) t2 al2) = none := if_neg h
theorem BC.of58' (B : BC E.1 N q E.2.1 E.2.2.1 s) (x : o58 s s') (b : s' = s ∨ bdd N s') : BC E.1 N q E.2.1 E.2.2.1 s' := by
  rcases b with b | b
  · rw [b]; exact B
  · exact BC.of58 B.1 x b B.2.2.1 B.2.2.2
/-- askNumbers -/
theorem x_28 (C : CB E.1 N q E.2.1 E.2.2.1 s) (g : GB N s) (ht : t ≤ N) (h1 : t1 < 524290) (h2 : t2 < 524290) : ∃ s', mjF (d + 3) 28 [.ref 75, .int (tyI t1), .int (tyI t2), .int (nI t)] (mjW0 s) = some (none, mjW0 s') ∧ o58 s s' ∧ (t1 = 0 ∧ t2 = 0 → s' = s) ∧ (¬ (t1 = 0 ∧ t2 = 0) → bdd N s') := by
  obtain ⟨y, y1, y2, y3, y4⟩ := x_27 (d := d) C g ht h1
  have gy : GB N y := by
    by_cases e : t1 = 0
    · rw [y3 e]; exact g
    · exact GB.ob (y4 e)
  obtain ⟨z, z1, z2, z3, z4⟩ := x_27 (d := d) (C.oC y2.C) gy ht h2
  refine ⟨z, ?_, y2.tr z2, fun h => by rw [z3 h.2, y3 h.1], fun h => ?_⟩
  · rw [e_28]
    unfold f_28 b_28_0
    rw [xV_75, y1, bN_s, xV_75, z1, bN_s]
  · by_cases e : t2 = 0
    · rw [z3 e]
      exact y4 (fun x => h ⟨x, e⟩)
    · exact z4 e
/-- codeOperator, in a bad state -/
theorem n_29 (B : BC E.1 N q E.2.1 E.2.2.1 s) (ht : t ≤ N) : ∃ s', mjF (d + 2) 29 [.ref 75, .int (nI t)] (mjW0 s) = some (some (.int (-1)), mjW0 s') ∧ BC E.1 N q E.2.1 E.2.2.1 s' ∧ oC q s s' := by
  have pre : mjF (d + 2) 29 [.ref 75, .int (nI t)] (mjW0 s) = _ := e_29 (d := d + 1)
  unfold f_29 b_29_0 at pre
  rw [xg_75_5, B.1.2.2.2.2.2.2.2, xg_75_0, xV_58, j_kind B.1.1.1.1 B.2.1.1 (Nat.le_refl N) ht, bI_s, x_30, bI_s, xg_75_0, xV_58, j_place B.1.1.1.1 B.2.1.1 (Nat.le_refl N) ht, bI_s, ycV B.1.pq] at pre
  obtain ⟨y, n', w1, w2, w3, w4, w5⟩ := n_emit (d := d) B (if (E.1 t).1 = 37 then 21 else if (E.1 t).1 = 42 then 19 else if (E.1 t).1 = 43 then 17 else if (E.1 t).1 = 45 then 18 else if (E.1 t).1 = 47 then 20 else if (E.1 t).1 = 60 then 22 else if (E.1 t).1 = 200 then 23 else 24) 0 (E.1 t).2.1
  rw [w1, bI_s] at pre
  exact ⟨y, pre, w3, w4⟩
/-- the code of two values, one behind the other -/
theorem twoJ {r : Row} (A1 : atC E N q s0 c0 cs j0 os1 s c1 t1 al1 l1) (A2 : jrun E os2 (jE j0 t1 al1) = some (jE (jE j0 t1 al1) t2 al2, l2)) : jrun E (os1 ++ os2 ++ [r]) j0 = match jrow E r (jE (jE j0 t1 al1) t2 al2) with
    | none => none
    | some (j2, c2) => some (j2, (l1 ++ l2) ++ c2) := by
  rw [jrun_app, jrun_app, A1.1]
  dsimp only
  rw [A2]
  dsimp only
  rw [jrun_1]
  rfl
theorem twoN {r : Row} (A1 : atC E N q s0 c0 cs j0 os1 s c1 t1 al1 l1) (A2 : jrun E os2 (jE j0 t1 al1) = none) : jrun E (os1 ++ os2 ++ [r]) j0 = none := by
  rw [jrun_app, jrun_app, A1.1]
  dsimp only
  rw [A2]
/-- codeOperator -/
theorem twoG (C : CE E N q s0 j0 cs) (A1 : atC E N q s0 c0 cs j0 os1 s c1 t1 al1 l1) (hc1 : c1 ≤ N) (x : o58 s s1) (A2 : atC E N q s1 (c1 + 1) (cs + l1.length) (jE j0 t1 al1) os2 s2 c2 t2 al2 l2) (hc2 : c2 ≤ N) (ho : isCmp (E.1 c1).1 = true ∨ isSum (E.1 c1).1 = true ∨ isPro (E.1 c1).1 = true) (hc : tcd (E.1 c1).1 t1 t2) (hb : cs + (c2 - c0) ≤ 3090) : ∃ s3 l3, mjF (d + 2) 29 [.ref 75, .int (nI c1)] (mjW0 s2) = some (some (.int (-1)), mjW0 s3) ∧ atC E N q s0 c0 cs j0 (os1 ++ os2 ++ [oTwo E.1 c1]) s3 c2 0 false l3 := by
  have tj := twoJ (r := oTwo E.1 c1) A1 A2.1
  have tr := two_row (E := E) (j0 := j0) (t1 := t1) (al1 := al1) (t2 := t2) (al2 := al2) (E.1 c1).2.1 (E.1 c1).1 hc
  rw [show oTwo E.1 c1 = (9, (E.1 c1).2.1, nbr (E.1 c1).1 0, 0, 0) from rfl, tr, opr_nbr ho] at tj
  obtain ⟨a1, a2, a3, a4, a5, a6, a7, a8⟩ := A1
  obtain ⟨b1, b2', b3, b4, b5, b6, b7, b8⟩ := A2
  have oe2 : oE q s0 s2 := a7.tr (x.oe.tr b7)
  have sz : s2.1 (q + 24) 3 = nI (cs + (l1.length + l2.length)) := by rw [b4, Nat.add_assoc]
  have C2 : CE E N q s2 j0 (cs + (l1.length + l2.length)) := C.go oe2 sz
  obtain ⟨s3, w1, w2, w3, w4, w5, w6⟩ := put1 (d := d) C2 (by omega) (if (E.1 c1).1 = 37 then 21 else if (E.1 c1).1 = 42 then 19 else if (E.1 c1).1 = 43 then 17 else if (E.1 c1).1 = 45 then 18 else if (E.1 c1).1 = 47 then 20 else if (E.1 c1).1 = 60 then 22 else if (E.1 c1).1 = 200 then 23 else 24) 0 (E.1 c1).2.1
  have CL2 : CL q s2 cs (l1 ++ l2) := (a5.keep (CP.trn (CP.o58 C.pq x) b6)).app b5
  have ll : (l1 ++ l2).length = l1.length + l2.length := List.length_append
  refine ⟨s3, _, ?_, tj, Or.inr (Or.inl rfl), ⟨by rw [w3]; exact b3.1, by rw [w3]; exact b3.2⟩, ?_, (CL2.keep (by rw [ll]; exact w6)).app (by rw [ll]; exact w5), CP.trn (CP.trn a6 (CP.trn (CP.o58 C.pq x) (b6.mono (by omega)))) (w6.mono (by omega)), oe2.tr w2, ?_⟩
  · rw [e_29]
    unfold f_29 b_29_0
    rw [xg_75_5, C2.1.2.2.2.2.2.2.2, xg_75_0, xV_58, j_kind C2.TH b3.1 hc2 hc1, bI_s, x_30, bI_s, xg_75_0, xV_58, j_place C2.TH b3.1 hc2 hc1, bI_s, ycV C.pq, w1, bI_s]
  · rw [w4, List.length_append, ll, List.length_singleton, Nat.add_assoc]
  · rw [List.length_append, ll, List.length_singleton]; omega
/-- a value, the operator behind it, the value behind that (SUM, PRODUCT) -/
theorem stepC {rd : Nat → Nat → PX} {P : Nat → PZ → Bool → List Ins → Prop} (ih : hE E N q (d + 3) me rd P) (C : CE E N q s0 j0 cs) (A : atC E N q s0 c0 cs j0 os s c1 t1 al1 l) (hc1 : c1 < N) (ho : isSum (E.1 c1).1 = true ∨ isPro (E.1 c1).1 = true) (hy : rd (c1 + 1) kq = .inr y) (y61 : ¬ (E.1 y.1).1 = 61) (hcy : c1 < y.1) (hK : KT E.2.2.2.1 kq y.2.2.1) (hA : AG s0 y.2.2.2.2) (hb : cs + (y.1 - c0) ≤ 3090) : (∃ s3 l3, (∀ K : Int32 → mjH → mjU, bI (mjF (d + 3) me [.ref 75] (mjW0 (tkGo s (c1 + 1)))) (fun v hp => rV hp 75 1 (bN (mjF (d + 3) 28 [.ref 75, .int (tyI t1), .int v, .int (nI c1)] hp) (fun hp => rV hp 75 1 (bI (mjF (d + 3) 29 [.ref 75, .int (nI c1)] hp) K)))) = K (-1) (mjW0 s3)) ∧ atC E N q s0 c0 cs j0 (os ++ y.2.2.2.1 ++ [oTwo E.1 c1]) s3 y.1 0 false l3 ∧ y.1 ≤ N) ∨ (∃ s3, (∀ K : Int32 → mjH → mjU, bI (mjF (d + 3) me [.ref 75] (mjW0 (tkGo s (c1 + 1)))) (fun v hp => rV hp 75 1 (bN (mjF (d + 3) 28 [.ref 75, .int (tyI t1), .int v, .int (nI c1)] hp) (fun hp => rV hp 75 1 (bI (mjF (d + 3) 29 [.ref 75, .int (nI c1)] hp) K)))) = K (-1) (mjW0 s3)) ∧ bdC E N q s0 j0 (os ++ y.2.2.2.1 ++ [oTwo E.1 c1]) s3) := by
  have hq' : q = 2 ∨ q = 30 := C.pq
  have hn := C.1.hn
  have xg : o58 s (tkGo s (c1 + 1)) := o58.go _ _
  have Cs : CE E N q s j0 (cs + l.length) := C.go A.2.2.2.2.2.2.1 A.2.2.2.1
  have C1 : CE E N q (tkGo s (c1 + 1)) (jE j0 t1 al1) (cs + l.length) := Cs.go xg.oe (by rw [xg.r (by omega)]; exact A.2.2.2.1)
  have A8 := A.2.2.2.2.2.2.2
  have t1l := A.2.1.lt hn
  have oe1 : oE q s0 (tkGo s (c1 + 1)) := A.2.2.2.2.2.2.1.tr xg.oe
  have ho' : isCmp (E.1 c1).1 = true ∨ isSum (E.1 c1).1 = true ∨ isPro (E.1 c1).1 = true := Or.inr ho
  have tn : ∀ {t2 : Nat}, tcd (E.1 c1).1 t1 t2 ↔ (t1 = 0 ∧ t2 = 0) := fun {t2} => tcd_n (by
    rcases ho with h | h
    · exact Or.inl h
    · exact Or.inr (Or.inl h))
  have G := ih (c1 + 1) kq (cs + l.length) (tkGo s (c1 + 1)) (jE j0 t1 al1) y (by omega) C1 (A.2.2.1.go _) hy y61 hK (hA.oE C.pq oe1) (by omega)
  rcases G with ⟨s2, t2, al2, l2, g1, g2, gN, _⟩ | ⟨s2, vv, g1, gv, g2, g3, g4⟩
  · have t2l := g2.2.1.lt hn
    have C2 := (C1.go g2.2.2.2.2.2.2.1 g2.2.2.2.1).1
    obtain ⟨s3, y1, y2, y3, y4⟩ := x_28 (d := d) C2 (GB.of g2.2.2.1 gN) (show c1 ≤ N by omega) t1l t2l
    by_cases hc : t1 = 0 ∧ t2 = 0
    · obtain ⟨s4, l4, w1, w2⟩ := twoG (d := d + 1) C A (by omega) xg g2 gN ho' (tn.mpr hc) hb
      refine Or.inl ⟨s4, l4, fun K => ?_, w2, gN⟩
      rw [g1, bI_s, xV_75, y1, bN_s, y3 hc, xV_75, w1, bI_s]
    · have B : BC E.1 N q E.2.1 E.2.2.1 s3 := by
        have := (C1.go g2.2.2.2.2.2.2.1 g2.2.2.2.1)
        exact this.bad (by have := g2.2.2.2.2.2.2.2; omega) y2 (y4 hc)
      obtain ⟨s4, w1, w2, w3⟩ := n_29 (d := d + 1) B (show c1 ≤ N by omega)
      refine Or.inr ⟨s4, fun K => ?_, ?_, w2, oe1.C.tr (g2.2.2.2.2.2.2.1.C.tr (y2.C.tr w3))⟩
      · rw [g1, bI_s, xV_75, y1, bN_s, xV_75, w1, bI_s]
      · rw [twoJ A g2.1, show oTwo E.1 c1 = (9, (E.1 c1).2.1, nbr (E.1 c1).1 0, 0, 0) from rfl, two_no _ _ (fun x => hc (tn.mp x))]
  · obtain ⟨s3, y1, y2, y3, y4⟩ := x_28 (d := d) g3.1 (GB.ob g3.2.1) (show c1 ≤ N by omega) t1l gv
    have B : BC E.1 N q E.2.1 E.2.2.1 s3 := g3.of58' y2 (by
      by_cases hc : t1 = 0 ∧ vv = 0
      · exact Or.inl (y3 hc)
      · exact Or.inr (y4 hc))
    obtain ⟨s4, w1, w2, w3⟩ := n_29 (d := d + 1) B (show c1 ≤ N by omega)
    refine Or.inr ⟨s4, fun K => ?_, twoN A g2, w2, oe1.C.tr (g4.tr (y2.C.tr w3))⟩
    rw [g1, bI_s, xV_75, y1, bN_s, xV_75, w1, bI_s]
theorem n_13l (B : BC E.1 N q E.2.1 E.2.2.1 s) (n : Nat) (a b : Int32) : L_13_7 (mjF (d + 2)) (n + 1) 75 a b (mjW0 s) = some (some (.int a), mjW0 s) := by
  have hT := B.1.1.1.1
  have k60 : s.1 60 N = 0 := by rw [(hT.2.2.2 N (Nat.le_refl N)).1, hT.2.2.1]
  rw [L13_S]
  unfold b_13_7 b_13_65
  rw [xg_75_0, xV_58, sz0 hT B.2.1.1 (Nat.le_refl N), bI_s, xg_75_0, xV_58, x_product (tk_b hT B.2.1), bI_s, k60, i01, if_neg (show ¬ ((0 : Int32) = 42 ∨ (0 : Int32) = 47 ∨ (0 : Int32) = 37) by decide), ite_self]
theorem n_12l (B : BC E.1 N q E.2.1 E.2.2.1 s) (n : Nat) (a b : Int32) : L_12_7 (mjF (d + 2)) (n + 1) 75 a b (mjW0 s) = some (some (.int a), mjW0 s) := by
  have hT := B.1.1.1.1
  have k60 : s.1 60 N = 0 := by rw [(hT.2.2.2 N (Nat.le_refl N)).1, hT.2.2.1]
  rw [L12_S]
  unfold b_12_7 b_12_65
  rw [xg_75_0, xV_58, sz0 hT B.2.1.1 (Nat.le_refl N), bI_s, xg_75_0, xV_58, x_sum (tk_b hT B.2.1), bI_s, k60, i01, if_neg (show ¬ ((0 : Int32) = 43 ∨ (0 : Int32) = 45) by decide), ite_self]
/-- the loop of codeProduct -/
theorem cp13 (ih : hE E N q (d + 3) 14 (prE E.1 (N + 1) w 3 o) P3) (C : CE E N q s0 j0 cs) (h61 : ¬ (E.1 y.1).1 = 61) (hK : KT E.2.2.2.1 kq y.2.2.1) (hA : AG s0 y.2.2.2.2) (hb : cs + (y.1 - c0) ≤ 3090) : ∀ (k n i : Nat) (z : PZ) (s : mjSt3) (t : Nat) (al : Bool) (l : List Ins), pLoop E.1 isPro (prE E.1 (N + 1) w 3 o) kq k z = .inr y → i + k = N + 1 → k < n → atC E N q s0 c0 cs j0 z.2.2.2.1 s z.1 t al l → z.1 ≤ N → (z.2.1 = 3 → l.length + c0 + 3 ≤ z.1) → gCo E N q s0 c0 cs j0 y.2.2.2.1 (L_13_7 (mjF (d + 3)) n 75 (tyI t) (nI i) (mjW0 s)) y.1 (P3 c0 y)
  | k, 0, i, z, s, t, al, l, h, hi, hk, A, hzN, hs => by omega
  | 0, n + 1, i, z, s, t, al, l, h, hi, hk, A, hzN, hs => by
    cases h
    have Cs : CE E N q s j0 (cs + l.length) := C.go A.2.2.2.2.2.2.1 A.2.2.2.1
    have hT := Cs.TH
    refine Or.inl ⟨s, t, al, l, ?_, A, hzN, hs⟩
    rw [L13_S]
    unfold b_13_7 b_13_65
    rw [xg_75_0, xV_58, sz0 hT A.2.2.1.1 hzN, bI_s, if_pos (show nI (N + 1) ≤ nI i by rw [show i = N + 1 by omega]; exact Int32.le_refl _)]
  | k + 1, n + 1, i, z, s, t, al, l, h, hi, hk, A, hzN, hs => by
    have hrd : ∀ c kq x, prE E.1 (N + 1) w 3 o c kq = .inr x → c < x.1 := fun c kq x hx => (prE_len (T := E.1) (M := N + 1) w 3 o c kq x (by omega) hx).1
    have Cs : CE E N q s j0 (cs + l.length) := C.go A.2.2.2.2.2.2.1 A.2.2.2.1
    have hT := Cs.TH
    have h0 := hT.2.2.1
    have hN := hT.2.1
    have f := A.2.2.1
    have pre : L_13_7 (mjF (d + 3)) (n + 1) 75 (tyI t) (nI i) (mjW0 s) = _ := L13_S _ _ _ _ _ _
    unfold b_13_7 b_13_65 at pre
    rw [xg_75_0, xV_58, sz0 hT f.1 hzN, bI_s, if_neg (show ¬ nI (N + 1) ≤ nI i from nI_ge (by omega) (by omega)), xg_75_0, xV_58, x_product (tk_f hT f hzN), bI_s, (hT.2.2.2 z.1 hzN).1, i01] at pre
    unfold pLoop at h
    by_cases g : isPro (E.1 z.1).1 = true
    · rw [if_pos g] at h
      have g' : (E.1 z.1).1 = 42 ∨ (E.1 z.1).1 = 47 ∨ (E.1 z.1).1 = 37 := by
        unfold isPro at g
        exact of_decide_eq_true g
      have zN : z.1 < N := by
        rcases g' with e | e | e
        · exact lt_z h0 hzN e (by decide)
        · exact lt_z h0 hzN e (by decide)
        · exact lt_z h0 hzN e (by decide)
      rw [if_pos g', xg_75_0, xV_58, j_now hT f.1 hzN, bI_s, xg_75_0, xV_58, j_skip hT f zN, bN_s, xV_75] at pre
      cases hd : prE E.1 (N + 1) w 3 o (z.1 + 1) (kq + z.2.2.1.length) with
      | inl x => rw [hd] at h; cases h
      | inr x =>
        rw [hd] at h
        dsimp only at h
        have zx := hrd _ _ _ hd
        have x61 : ¬ (E.1 x.1).1 = 61 := by
          intro e
          have := pLoop_end h e rfl
          rw [this] at h61
          exact h61 e
        obtain ⟨h1, pa, pb, pc, p1, p2, p3⟩ := pLoop_pre hrd k _ y h
        dsimp only at h1 p1 p2 p3
        have K1 := (KT.app (KT.app (show KT E.2.2.2.1 kq ((z.2.2.1 ++ x.2.2.1) ++ pa) from p1 ▸ hK)).1).2
        have G1 : AG s0 x.2.2.2.2 := (AG.app (AG.app (show AG s0 ((z.2.2.2.2 ++ x.2.2.2.2) ++ pc) from p3 ▸ hA)).1).2
        have S := stepC ih C A zN (Or.inr g) hd x61 (by omega) K1 G1 (by omega)
        rcases S with ⟨s3, l3, w1, w2, w3⟩ | ⟨s3, w1, w2⟩
        · rw [w1, nI_1] at pre
          rw [pre]
          exact cp13 ih C h61 hK hA hb k n (i + 1) _ s3 0 false l3 h (by omega) (by omega) w2 w3 (fun x => by cases x)
        · obtain ⟨n', rfl⟩ : ∃ n', n = n' + 1 := ⟨n - 1, by omega⟩
          rw [w1, n_13l (d := d + 1) w2.2.1] at pre
          refine Or.inr ⟨s3, 0, pre, by decide, ?_, w2.2⟩
          rw [p2]
          exact jrun_no w2.1
    · rw [if_neg g] at h
      cases h
      rw [if_neg (fun e => g (by unfold isPro; exact decide_eq_true e))] at pre
      exact Or.inl ⟨s, t, al, l, pre, A, hzN, hs⟩
theorem x_13 (ih : hE E N q (d + 3) 14 (prE E.1 (N + 1) w 3 o) P3) : hE E N q (d + 4) 13 (prE E.1 (N + 1) (w + 1) 2 o) P3 := by
  intro c kq cs s j z hc C f hz h61 hK hA hn
  have hT := C.TH
  have hrd : ∀ c kq x, prE E.1 (N + 1) w 3 o c kq = .inr x → c < x.1 := fun c kq x hx => (prE_len (T := E.1) (M := N + 1) w 3 o c kq x (by omega) hx).1
  have pre : mjF (d + 4) 13 [.ref 75] (mjW0 s) = _ := e_13 (d := d + 3)
  unfold f_13 b_13_0 at pre
  rw [xV_75] at pre
  rw [prE_2] at hz
  cases ha : prE E.1 (N + 1) w 3 o c kq with
  | inl x => rw [ha] at hz; cases hz
  | inr x =>
    rw [ha] at hz
    dsimp only at hz
    obtain ⟨h1, pa, pb, pc, p1, p2, p3⟩ := pLoop_pre hrd _ _ z hz
    have a61 : ¬ (E.1 x.1).1 = 61 := by
      intro g
      have := pLoop_end hz g rfl
      rw [this] at h61
      exact h61 g
    have hx := hrd _ _ _ ha
    have G := ih c kq cs s j x hc C f ha a61 ((KT.app (p1 ▸ hK)).1) ((AG.app (p3 ▸ hA)).1) (by omega)
    rcases G with ⟨s1, t, al, l, g1, g2, g3, g4⟩ | ⟨s1, vv, g1, g2, g3⟩
    · rw [g1, bI_s, show (0 : Int32) = nI 0 from rfl] at pre
      rw [pre]
      exact cp13 ih C h61 hK hA hn (N + 1) mjN 0 x s1 t al l hz (by omega) (by have := mjN_v; have := hT.2.1; omega) g2 g3 g4
    · rw [g1, bI_s, show mjN = 99999999 + 1 from rfl, n_13l (d := d + 1) g3.2.1] at pre
      refine Or.inr ⟨s1, vv, pre, g2, ?_, g3.2⟩
      rw [p2]
      exact jrun_no g3.1
/-- the loop of codeSum -/
theorem cp12 (ih : hE E N q (d + 3) 13 (prE E.1 (N + 1) w 2 o) P3) (C : CE E N q s0 j0 cs) (h61 : ¬ (E.1 y.1).1 = 61) (hK : KT E.2.2.2.1 kq y.2.2.1) (hA : AG s0 y.2.2.2.2) (hb : cs + (y.1 - c0) ≤ 3090) : ∀ (k n i : Nat) (z : PZ) (s : mjSt3) (t : Nat) (al : Bool) (l : List Ins), pLoop E.1 isSum (prE E.1 (N + 1) w 2 o) kq k z = .inr y → i + k = N + 1 → k < n → atC E N q s0 c0 cs j0 z.2.2.2.1 s z.1 t al l → z.1 ≤ N → (z.2.1 = 3 → l.length + c0 + 3 ≤ z.1) → gCo E N q s0 c0 cs j0 y.2.2.2.1 (L_12_7 (mjF (d + 3)) n 75 (tyI t) (nI i) (mjW0 s)) y.1 (P3 c0 y)
  | k, 0, i, z, s, t, al, l, h, hi, hk, A, hzN, hs => by omega
  | 0, n + 1, i, z, s, t, al, l, h, hi, hk, A, hzN, hs => by
    cases h
    have Cs : CE E N q s j0 (cs + l.length) := C.go A.2.2.2.2.2.2.1 A.2.2.2.1
    have hT := Cs.TH
    refine Or.inl ⟨s, t, al, l, ?_, A, hzN, hs⟩
    rw [L12_S]
    unfold b_12_7 b_12_65
    rw [xg_75_0, xV_58, sz0 hT A.2.2.1.1 hzN, bI_s, if_pos (show nI (N + 1) ≤ nI i by rw [show i = N + 1 by omega]; exact Int32.le_refl _)]
  | k + 1, n + 1, i, z, s, t, al, l, h, hi, hk, A, hzN, hs => by
    have hrd : ∀ c kq x, prE E.1 (N + 1) w 2 o c kq = .inr x → c < x.1 := fun c kq x hx => (prE_len (T := E.1) (M := N + 1) w 2 o c kq x (by omega) hx).1
    have Cs : CE E N q s j0 (cs + l.length) := C.go A.2.2.2.2.2.2.1 A.2.2.2.1
    have hT := Cs.TH
    have h0 := hT.2.2.1
    have hN := hT.2.1
    have f := A.2.2.1
    have pre : L_12_7 (mjF (d + 3)) (n + 1) 75 (tyI t) (nI i) (mjW0 s) = _ := L12_S _ _ _ _ _ _
    unfold b_12_7 b_12_65 at pre
    rw [xg_75_0, xV_58, sz0 hT f.1 hzN, bI_s, if_neg (show ¬ nI (N + 1) ≤ nI i from nI_ge (by omega) (by omega)), xg_75_0, xV_58, x_sum (tk_f hT f hzN), bI_s, (hT.2.2.2 z.1 hzN).1, i01] at pre
    unfold pLoop at h
    by_cases g : isSum (E.1 z.1).1 = true
    · rw [if_pos g] at h
      have g' : (E.1 z.1).1 = 43 ∨ (E.1 z.1).1 = 45 := by
        unfold isSum at g
        exact of_decide_eq_true g
      have zN : z.1 < N := by
        rcases g' with e | e
        · exact lt_z h0 hzN e (by decide)
        · exact lt_z h0 hzN e (by decide)
      rw [if_pos g', xg_75_0, xV_58, j_now hT f.1 hzN, bI_s, xg_75_0, xV_58, j_skip hT f zN, bN_s, xV_75] at pre
      cases hd : prE E.1 (N + 1) w 2 o (z.1 + 1) (kq + z.2.2.1.length) with
      | inl x => rw [hd] at h; cases h
      | inr x =>
        rw [hd] at h
        dsimp only at h
        have zx := hrd _ _ _ hd
        have x61 : ¬ (E.1 x.1).1 = 61 := by
          intro e
          have := pLoop_end h e rfl
          rw [this] at h61
          exact h61 e
        obtain ⟨h1, pa, pb, pc, p1, p2, p3⟩ := pLoop_pre hrd k _ y h
        dsimp only at h1 p1 p2 p3
        have K1 := (KT.app (KT.app (show KT E.2.2.2.1 kq ((z.2.2.1 ++ x.2.2.1) ++ pa) from p1 ▸ hK)).1).2
        have G1 : AG s0 x.2.2.2.2 := (AG.app (AG.app (show AG s0 ((z.2.2.2.2 ++ x.2.2.2.2) ++ pc) from p3 ▸ hA)).1).2
        have S := stepC ih C A zN (Or.inl g) hd x61 (by omega) K1 G1 (by omega)
        rcases S with ⟨s3, l3, w1, w2, w3⟩ | ⟨s3, w1, w2⟩
        · rw [w1, nI_1] at pre
          rw [pre]
          exact cp12 ih C h61 hK hA hb k n (i + 1) _ s3 0 false l3 h (by omega) (by omega) w2 w3 (fun x => by cases x)
        · obtain ⟨n', rfl⟩ : ∃ n', n = n' + 1 := ⟨n - 1, by omega⟩
          rw [w1, n_12l (d := d + 1) w2.2.1] at pre
          refine Or.inr ⟨s3, 0, pre, by decide, ?_, w2.2⟩
          rw [p2]
          exact jrun_no w2.1
    · rw [if_neg g] at h
      cases h
      rw [if_neg (fun e => g (by unfold isSum; exact decide_eq_true e))] at pre
      exact Or.inl ⟨s, t, al, l, pre, A, hzN, hs⟩
theorem x_12 (ih : hE E N q (d + 3) 13 (prE E.1 (N + 1) w 2 o) P3) : hE E N q (d + 4) 12 (prE E.1 (N + 1) (w + 1) 1 o) P3 := by
  intro c kq cs s j z hc C f hz h61 hK hA hn
  have hT := C.TH
  have hrd : ∀ c kq x, prE E.1 (N + 1) w 2 o c kq = .inr x → c < x.1 := fun c kq x hx => (prE_len (T := E.1) (M := N + 1) w 2 o c kq x (by omega) hx).1
  have pre : mjF (d + 4) 12 [.ref 75] (mjW0 s) = _ := e_12 (d := d + 3)
  unfold f_12 b_12_0 at pre
  rw [xV_75] at pre
  rw [prE_1] at hz
  cases ha : prE E.1 (N + 1) w 2 o c kq with
  | inl x => rw [ha] at hz; cases hz
  | inr x =>
    rw [ha] at hz
    dsimp only at hz
    obtain ⟨h1, pa, pb, pc, p1, p2, p3⟩ := pLoop_pre hrd _ _ z hz
    have a61 : ¬ (E.1 x.1).1 = 61 := by
      intro g
      have := pLoop_end hz g rfl
      rw [this] at h61
      exact h61 g
    have hx := hrd _ _ _ ha
    have G := ih c kq cs s j x hc C f ha a61 ((KT.app (p1 ▸ hK)).1) ((AG.app (p3 ▸ hA)).1) (by omega)
    rcases G with ⟨s1, t, al, l, g1, g2, g3, g4⟩ | ⟨s1, vv, g1, g2, g3⟩
    · rw [g1, bI_s, show (0 : Int32) = nI 0 from rfl] at pre
      rw [pre]
      exact cp12 ih C h61 hK hA hn (N + 1) mjN 0 x s1 t al l hz (by omega) (by have := mjN_v; have := hT.2.1; omega) g2 g3 g4
    · rw [g1, bI_s, show mjN = 99999999 + 1 from rfl, n_12l (d := d + 1) g3.2.1] at pre
      refine Or.inr ⟨s1, vv, pre, g2, ?_, g3.2⟩
      rw [p2]
      exact jrun_no g3.1
/-- codeUnit -/
theorem min_row (x : Int32) : jrow E (8, x, 0, 0, 0) (jE j0 t al) = if t = 0 then some (jE j0 t al, [(16, 0, x)]) else none := rfl
theorem x_14 (h15 : hE E N q (d + 2) 15 (prE E.1 (N + 1) w 4 o) P3) (h14 : ¬ o = 12 → hE E N q (d + 2) 14 (prE E.1 (N + 1) w 3 (o + 1)) P3) : hE E N q (d + 3) 14 (prE E.1 (N + 1) (w + 1) 3 o) P3 := by
  intro c kq cs s j z hc C f hz h61 hK hA hb
  have hT := C.TH
  have h0 := hT.2.2.1
  have hn := C.1.hn
  have hq' : q = 2 ∨ q = 30 := C.pq
  have pre : mjF (d + 3) 14 [.ref 75] (mjW0 s) = _ := e_14 (d := d + 2)
  unfold f_14 b_14_0 at pre
  rw [xg_75_0, xV_58, j_is hT f.1 hc, bI_s, i01] at pre
  rw [prE_3] at hz
  by_cases e45 : (E.1 c).1 = 45
  · rw [if_pos e45] at hz pre
    have cN := lt_z h0 hc e45 (by decide)
    by_cases o12 : o = 12
    · rw [if_pos o12] at hz; cases hz
    rw [if_neg o12] at hz
    cases ha : prE E.1 (N + 1) w 3 (o + 1) (c + 1) kq with
    | inl x => rw [ha] at hz; cases hz
    | inr x =>
      rw [ha] at hz
      cases hz
      dsimp only at hb hK hA h61
      have hx := (prE_len (T := E.1) (M := N + 1) w 3 (o + 1) (c + 1) kq x (by omega) ha).1
      have xg : o58 s (tkGo s (c + 1)) := o58.go _ _
      have C1 : CE E N q (tkGo s (c + 1)) j cs := C.go xg.oe (by rw [xg.r (by omega)]; exact C.2.2.2.2)
      have G := h14 o12 (c + 1) kq cs (tkGo s (c + 1)) j x (by omega) C1 (f.go _) ha h61 hK (hA.oE C.pq xg.oe) (by omega)
      rw [xg_75_0, xV_58, j_now hT f.1 hc, bI_s, xg_75_0, xV_58, j_skip hT f cN, bN_s, xV_75] at pre
      rcases G with ⟨s2, t2, al2, l2, g1, g2, gN, _⟩ | ⟨s2, vv, g1, gv, g2, g3, g4⟩
      · have C2 := C1.go g2.2.2.2.2.2.2.1 g2.2.2.2.1
        have g8 := g2.2.2.2.2.2.2.2
        obtain ⟨s3, y1, y2, y3, y4⟩ := x_27 (d := d) C2.1 (GB.of g2.2.2.1 gN) hc (g2.2.1.lt hn)
        rw [g1, bI_s, xV_75, y1, bN_s] at pre
        have mr := min_row (E := E) (j0 := j) (t := t2) (al := al2) (E.1 c).2.1
        by_cases t0 : t2 = 0
        · rw [if_pos t0] at mr
          rw [y3 t0] at pre
          obtain ⟨a1, a2, a3, a4, a5, a6, a7, a8⟩ := g2
          obtain ⟨s4, w1, w2, w3, w4, w5, w6⟩ := put1 (d := d + 1) C2 (by omega) 16 0 (E.1 c).2.1
          rw [xg_75_5, C2.1.2.2.2.2.2.2.2, xg_75_0, xV_58, j_place C2.TH a3.1 gN hc, bI_s, ycV C.pq, w1, bI_s] at pre
          refine Or.inl ⟨s4, 0, al2, l2 ++ [(16, 0, (E.1 c).2.1)], pre, ⟨?_, Or.inr (Or.inl rfl), ⟨by rw [w3]; exact a3.1, by rw [w3]; exact a3.2⟩, ?_, (a5.keep w6).app w5, CP.trn (CP.o58 C.pq xg) (CP.trn a6 (w6.mono (by omega))), xg.oe.tr (a7.tr w2), ?_⟩, gN, fun x => by cases x⟩
          · rw [jrun_app, a1]
            dsimp only
            rw [jrun_1, mr, t0]
          · rw [w4, List.length_append, List.length_singleton, Nat.add_assoc]
          · rw [List.length_append, List.length_singleton]
            show l2.length + 1 + c ≤ x.1
            omega
        · rw [if_neg t0] at mr
          have B : BC E.1 N q E.2.1 E.2.2.1 s3 := C2.bad (by omega) y2 (y4 t0)
          obtain ⟨s4, n', w1, w2, w3, w4, w5⟩ := n_emit (d := d + 1) B 16 0 (E.1 c).2.1
          rw [xg_75_5, B.1.2.2.2.2.2.2.2, xg_75_0, xV_58, j_place B.1.1.1.1 B.2.1.1 (Nat.le_refl N) hc, bI_s, ycV C.pq, w1, bI_s] at pre
          refine Or.inr ⟨s4, 0, pre, by decide, ?_, w3, xg.C.tr (g2.2.2.2.2.2.2.1.C.tr (y2.C.tr w4))⟩
          rw [jrun_app, g2.1]
          dsimp only
          rw [jrun_1, mr]
      · obtain ⟨s3, y1, y2, y3, y4⟩ := x_27 (d := d) g3.1 (GB.ob g3.2.1) hc gv
        have B : BC E.1 N q E.2.1 E.2.2.1 s3 := g3.of58' y2 (by
          by_cases h : vv = 0
          · exact Or.inl (y3 h)
          · exact Or.inr (y4 h))
        obtain ⟨s4, n', w1, w2, w3, w4, w5⟩ := n_emit (d := d + 1) B 16 0 (E.1 c).2.1
        rw [g1, bI_s, xV_75, y1, bN_s, xg_75_5, B.1.2.2.2.2.2.2.2, xg_75_0, xV_58, j_place B.1.1.1.1 B.2.1.1 (Nat.le_refl N) hc, bI_s, ycV C.pq, w1, bI_s] at pre
        exact Or.inr ⟨s4, 0, pre, by decide, jrun_no g2, w3, xg.C.tr (g4.tr (y2.C.tr w4))⟩
  · rw [if_neg e45] at hz pre
    have G := h15 c kq cs s j z hc C f hz h61 hK hA hb
    rw [xV_75] at pre
    rcases G with ⟨s2, t2, al2, l2, g1, g2⟩ | ⟨s2, vv, g1, g2⟩
    · rw [g1, bI_s] at pre
      exact Or.inl ⟨s2, t2, al2, l2, pre, g2⟩
    · rw [g1, bI_s] at pre
      exact Or.inr ⟨s2, vv, pre, g2⟩
end MJA33
end
section
/-! ===== the Coder: E ===== -/
section MJA34
variable {E : EV} {d N q c t n e k u v i m o w cs c0 c1 c2 kq nt t1 t2 D me : Nat} {s s1 s2 s' s0 : mjSt3} {j j0 : JS} {y z : PZ} {os os1 os2 : List Row} {l l1 l2 : List Ins} {al al1 al2 : Bool}
/-- the TYPES of what is compared -/
theorem x_chk (C : CB E.1 N q E.2.1 E.2.2.1 s) (g : GB N s) (ht : c1 ≤ N) (hc : (E.1 c1).1 = 200 ∨ (E.1 c1).1 = 201 ∨ (E.1 c1).1 = 60) (h1 : t1 < 524290) (h2 : t2 < 524290) : ∃ s', (if (E.1 c1).1 = 60 then rV (mjW0 s) 75 1 (bN (mjF (d + 3) 28 [.ref 75, .int (tyI t1), .int (tyI t2), .int (nI c1)] (mjW0 s)) (fun hp => b_11_93 (mjF (d + 3)) 75 (nI c1) hp)) else (if tyI t1 = -1 then b_11_70 (mjF (d + 3)) 75 (nI c1) (tyI t2) 1 (mjW0 s) else b_11_70 (mjF (d + 3)) 75 (nI c1) (tyI t2) 0 (mjW0 s))) = b_11_93 (mjF (d + 3)) 75 (nI c1) (mjW0 s') ∧ o58 s s' ∧ (tcd (E.1 c1).1 t1 t2 → s' = s) ∧ (¬ tcd (E.1 c1).1 t1 t2 → bdd N s') := by
  by_cases e60 : (E.1 c1).1 = 60
  · obtain ⟨z, z1, z2, z3, z4⟩ := x_28 (d := d) C g ht h1 h2
    have tn := tcd_n (t1 := t1) (t2 := t2) (Or.inr (Or.inr e60))
    refine ⟨z, ?_, z2, fun h => z3 (tn.mp h), fun h => z4 (fun x => h (tn.mpr x))⟩
    rw [if_pos e60, xV_75, z1, bN_s]
  · have tn := tcd_e (t1 := t1) (t2 := t2) (show (E.1 c1).1 = 200 ∨ (E.1 c1).1 = 201 by
      rcases hc with h | h | h
      · exact Or.inl h
      · exact Or.inr h
      · exact absurd h e60)
    have e1 : tyI t1 = -1 ↔ t1 = 0 := tyI_eq (u := 0) h1 (by decide)
    have e2 : tyI t2 = -1 ↔ t2 = 0 := tyI_eq (u := 0) h2 (by decide)
    obtain ⟨z, z1, z2, z3⟩ := j_atG (d := d + 2) (k := 7) C.1.1.1 g ht (by decide)
    rw [if_neg e60]
    unfold b_11_70 b_11_80
    by_cases a : t1 = 0
    · rw [if_pos (e1.mpr a)]
      by_cases b : t2 = 0
      · rw [if_pos (e2.mpr b), if_pos rfl]
        exact ⟨s, rfl, offG.rf, fun _ => rfl, fun h => absurd (tn.mpr ⟨fun _ => b, fun _ => a⟩) h⟩
      · rw [if_neg (fun x => b (e2.mp x)), if_neg (by decide), xg_75_0, xV_58, z1, bN_s]
        exact ⟨z, rfl, z3, fun h => absurd ((tn.mp h).mp a) b, fun _ => z2⟩
    · rw [if_neg (fun x => a (e1.mp x))]
      by_cases b : t2 = 0
      · rw [if_pos (e2.mpr b), if_neg (by decide), xg_75_0, xV_58, z1, bN_s]
        exact ⟨z, rfl, z3, fun h => absurd ((tn.mp h).mpr b) a, fun _ => z2⟩
      · rw [if_neg (fun x => b (e2.mp x)), if_pos rfl]
        exact ⟨s, rfl, offG.rf, fun _ => rfl, fun h => absurd (tn.mpr ⟨fun x => absurd x a, fun x => absurd x b⟩) h⟩
theorem x_11 (ih : hE E N q (d + 3) 12 (prE E.1 (N + 1) w 1 o) P3) : hE E N q (d + 4) 11 (prE E.1 (N + 1) (w + 1) 0 o) P3 := by
  intro c kq cs s j z hc C f hz h61 hK hA hb
  have hT := C.TH
  have h0 := hT.2.2.1
  have hn := C.1.hn
  have hq' : q = 2 ∨ q = 30 := C.pq
  have hrd : ∀ c kq x, prE E.1 (N + 1) w 1 o c kq = .inr x → c < x.1 := fun c kq x hx => (prE_len (T := E.1) (M := N + 1) w 1 o c kq x (by omega) hx).1
  have pre : mjF (d + 4) 11 [.ref 75] (mjW0 s) = _ := e_11 (d := d + 3)
  unfold f_11 b_11_0 at pre
  rw [xV_75] at pre
  rw [prE_0] at hz
  cases ha : prE E.1 (N + 1) w 1 o c kq with
  | inl x => rw [ha] at hz; cases hz
  | inr x =>
    rw [ha] at hz
    dsimp only at hz
    have hx := hrd _ _ _ ha
    by_cases g : isCmp (E.1 x.1).1 = true
    · rw [if_pos g] at hz
      have g' : (E.1 x.1).1 = 200 ∨ (E.1 x.1).1 = 201 ∨ (E.1 x.1).1 = 60 := by
        unfold isCmp at g
        exact of_decide_eq_true g
      have x61 : ¬ (E.1 x.1).1 = 61 := by
        rcases g' with h | h | h
        · rw [h]; decide
        · rw [h]; decide
        · rw [h]; decide
      cases hd : prE E.1 (N + 1) w 1 o (x.1 + 1) (kq + x.2.2.1.length) with
      | inl y => rw [hd] at hz; cases hz
      | inr y =>
        rw [hd] at hz
        cases hz
        dsimp only at h61 hK hA hb
        have hy := hrd _ _ _ hd
        have G := ih c kq cs s j x hc C f ha x61 (KT.app hK).1 (AG.app hA).1 (by omega)
        rcases G with ⟨s1, t1, al1, l1, g1, A1, gN, _⟩ | ⟨s1, vv, g1, gv, g2, g3, g4⟩
        · have xN : x.1 < N := by
            rcases g' with h | h | h
            · exact lt_z h0 gN h (by decide)
            · exact lt_z h0 gN h (by decide)
            · exact lt_z h0 gN h (by decide)
          have C1 : CE E N q s1 j (cs + l1.length) := C.go A1.2.2.2.2.2.2.1 A1.2.2.2.1
          have f1 := A1.2.2.1
          have A8 := A1.2.2.2.2.2.2.2
          have xg : o58 s1 (tkGo s1 (x.1 + 1)) := o58.go _ _
          have C2 : CE E N q (tkGo s1 (x.1 + 1)) (jE j t1 al1) (cs + l1.length) := C1.go xg.oe (by rw [xg.r (by omega)]; exact A1.2.2.2.1)
          have oe1 : oE q s (tkGo s1 (x.1 + 1)) := A1.2.2.2.2.2.2.1.tr xg.oe
          rw [g1, bI_s, xg_75_0, xV_58, x_compare (tk_f C1.TH f1 gN), bI_s, (C1.TH.2.2.2 x.1 gN).1, i01, if_pos g', xg_75_0, xV_58, j_now C1.TH f1.1 gN, bI_s, xg_75_0, xV_58, j_skip C1.TH f1 xN, bN_s, xV_75] at pre
          have G2 := ih (x.1 + 1) (kq + x.2.2.1.length) (cs + l1.length) (tkGo s1 (x.1 + 1)) (jE j t1 al1) y (by omega) C2 (f1.go _) hd h61 (KT.app hK).2 ((AG.app hA).2.oE C.pq oe1) (by omega)
          rcases G2 with ⟨s2, t2, al2, l2, r1, A2, rN, _⟩ | ⟨s2, vv, r1, rv, r2, r3, r4⟩
          · have C3 := C2.go A2.2.2.2.2.2.2.1 A2.2.2.2.1
            have B8 := A2.2.2.2.2.2.2.2
            obtain ⟨s3, y1, y2, y3, y4⟩ := x_chk (d := d) C3.1 (GB.of A2.2.2.1 rN) gN g' (A1.2.1.lt hn) (A2.2.1.lt hn)
            rw [r1, bI_s, xg_75_0, xV_58, j_kind C3.TH A2.2.2.1.1 rN gN, bI_s, y1] at pre
            unfold b_11_93 at pre
            by_cases tc : tcd (E.1 x.1).1 t1 t2
            · obtain ⟨s4, l4, w1, w2⟩ := twoG (d := d + 1) C A1 gN xg A2 rN (Or.inl g) tc (by omega)
              rw [y3 tc, xV_75, w1, bI_s] at pre
              exact Or.inl ⟨s4, 0, false, l4, pre, w2, rN, fun x => by cases x⟩
            · have B : BC E.1 N q E.2.1 E.2.2.1 s3 := C3.bad (by omega) y2 (y4 tc)
              obtain ⟨s4, w1, w2, w3⟩ := n_29 (d := d + 1) B gN
              rw [xV_75, w1, bI_s] at pre
              refine Or.inr ⟨s4, 0, pre, by decide, ?_, w2, oe1.C.tr (A2.2.2.2.2.2.2.1.C.tr (y2.C.tr w3))⟩
              show jrun E (x.2.2.2.1 ++ y.2.2.2.1 ++ [oTwo E.1 x.1]) j = none
              rw [twoJ A1 A2.1, show oTwo E.1 x.1 = (9, (E.1 x.1).2.1, nbr (E.1 x.1).1 0, 0, 0) from rfl, two_no _ _ tc]
          · obtain ⟨s3, y1, y2, y3, y4⟩ := x_chk (d := d) r3.1 (GB.ob r3.2.1) gN g' (A1.2.1.lt hn) rv
            have B : BC E.1 N q E.2.1 E.2.2.1 s3 := r3.of58' y2 (by
              by_cases h : tcd (E.1 x.1).1 t1 vv
              · exact Or.inl (y3 h)
              · exact Or.inr (y4 h))
            obtain ⟨s4, w1, w2, w3⟩ := n_29 (d := d + 1) B gN
            rw [r1, bI_s, xg_75_0, xV_58, j_kind r3.1.1.1.1 r3.2.1.1 (Nat.le_refl N) gN, bI_s, y1] at pre
            unfold b_11_93 at pre
            rw [xV_75, w1, bI_s] at pre
            exact Or.inr ⟨s4, 0, pre, by decide, twoN A1 r2, w2, oe1.C.tr (r4.tr (y2.C.tr w3))⟩
        · have hT1 := g3.1.1.1.1
          have k60 : s1.1 60 N = 0 := by rw [(hT1.2.2.2 N (Nat.le_refl N)).1, hT1.2.2.1]
          rw [g1, bI_s, xg_75_0, xV_58, x_compare (tk_b hT1 g3.2.1), bI_s, k60, i01, if_neg (by decide)] at pre
          refine Or.inr ⟨s1, vv, pre, gv, ?_, g3, g4⟩
          show jrun E (x.2.2.2.1 ++ y.2.2.2.1 ++ [oTwo E.1 x.1]) j = none
          rw [List.append_assoc]
          exact jrun_no g2
    · rw [if_neg g] at hz
      cases hz
      have G := ih c kq cs s j z hc C f ha h61 hK hA hb
      rcases G with ⟨s1, t1, al1, l1, g1, A1, gN, g4⟩ | ⟨s1, vv, g1, gv, g2, g3, g4⟩
      · have C1 : CE E N q s1 j (cs + l1.length) := C.go A1.2.2.2.2.2.2.1 A1.2.2.2.1
        rw [g1, bI_s, xg_75_0, xV_58, x_compare (tk_f C1.TH A1.2.2.1 gN), bI_s, (C1.TH.2.2.2 z.1 gN).1, i01, if_neg (fun h => g (by unfold isCmp; exact decide_eq_true h))] at pre
        exact Or.inl ⟨s1, t1, al1, l1, pre, A1, gN, g4⟩
      · have hT1 := g3.1.1.1.1
        have k60 : s1.1 60 N = 0 := by rw [(hT1.2.2.2 N (Nat.le_refl N)).1, hT1.2.2.1]
        rw [g1, bI_s, xg_75_0, xV_58, x_compare (tk_b hT1 g3.2.1), bI_s, k60, i01, if_neg (by decide)] at pre
        exact Or.inr ⟨s1, vv, pre, gv, g2, g3, g4⟩
/-- how deep the calls of an E at level o go -/
def dpE (o : Nat) : Nat := 8 + 7 * (12 - o)
def hS (E : EV) (N q w : Nat) : Prop := ∀ o, o ≤ 12 → ∀ e, hE E N q (dpE o + e + 4) 11 (prE E.1 (N + 1) w 0 o) P3 ∧ hE E N q (dpE o + e + 3) 12 (prE E.1 (N + 1) w 1 o) P3 ∧ hE E N q (dpE o + e + 2) 13 (prE E.1 (N + 1) w 2 o) P3 ∧ hE E N q (dpE o + e + 1) 14 (prE E.1 (N + 1) w 3 o) P3 ∧ hE E N q (dpE o + e) 15 (prE E.1 (N + 1) w 4 o) P3
theorem hE_no {rd : Nat → Nat → PX} {P : Nat → PZ → Bool → List Ins → Prop} (h : ∀ c kq x, ¬ rd c kq = .inr x) : hE E N q D me rd P := by
  intro c kq cs s j z _ _ _ hz
  exact absurd hz (h c kq z)
theorem hS_all : ∀ (W w : Nat), w ≤ W → hS E N q w
  | W, 0, _ => by
    intro o _ e
    exact ⟨hE_no (fun _ _ _ h => by cases h), hE_no (fun _ _ _ h => by cases h), hE_no (fun _ _ _ h => by cases h), hE_no (fun _ _ _ h => by cases h), hE_no (fun _ _ _ h => by cases h)⟩
  | 0, w + 1, h => by omega
  | W + 1, w + 1, hw => by
    have IH : hS E N q w := hS_all W w (by omega)
    intro o ho e
    obtain ⟨i1, i2, i3, i4, i5⟩ := IH o ho e
    have hd : 8 ≤ dpE o := by unfold dpE; omega
    obtain ⟨b, hb⟩ : ∃ b, dpE o + e = b + 8 := ⟨dpE o + e - 8, by omega⟩
    rw [hb] at i1 i2 i3 i4 i5 ⊢
    refine ⟨x_11 (d := b + 8) i2, x_12 (d := b + 7) i3, x_13 (d := b + 6) i4, x_14 (d := b + 6) i5 (fun o12 => ?_), ?_⟩
    · have hd1 : dpE o = dpE (o + 1) + 7 := by unfold dpE; omega
      have := (IH (o + 1) (by omega) (e + 6)).2.2.2.1
      rw [show dpE (o + 1) + (e + 6) + 1 = b + 8 by omega] at this
      exact this
    · cases w with
      | zero => exact hE_no (fun _ _ _ h => by cases h)
      | succ w =>
        have IH2 : hS E N q w := hS_all W w (by omega)
        refine x_15 (d := b) (fun o12 => ?_) (fun o12 => ?_)
        · have hd1 : dpE o = dpE (o + 1) + 7 := by unfold dpE; omega
          have := (IH2 (o + 1) (by omega) e).1
          rw [show dpE (o + 1) + e + 4 = b + 5 by omega] at this
          exact this
        · have hd1 : dpE o = dpE (o + 1) + 7 := by unfold dpE; omega
          have := (IH2 (o + 1) (by omega) (e + 1)).1
          rw [show dpE (o + 1) + (e + 1) + 4 = b + 6 by omega] at this
          exact this
/-- THE CODER'S E IS THE JUDGED ORDERS OF THE GRAMMAR'S -/
theorem hE_all (w e : Nat) : hE E N q (96 + e) 11 (prE E.1 (N + 1) w 0 0) P3 := by
  have := (hS_all (E := E) (N := N) (q := q) w w (Nat.le_refl w) 0 (by omega) e).1
  rw [show dpE 0 + e + 4 = 96 + e by unfold dpE; omega] at this
  exact this
end MJA34
end
section
/-! ===== the Coder: what is left of = ===== -/
section MJA35
variable {E : EV} {d N q c t n e k u v i m o w cs c0 kq nt D me : Nat} {s s' s0 : mjSt3} {j j0 : JS} {y z : PZ} {p : Nat × Nat} {os : List Row} {rs : List Nat} {l : List Ins} {al isM : Bool}
/-- one part of a POST -/
theorem postS (ih : ¬ o = 12 → hE E N q (d + 5) 11 (prE E.1 (N + 1) w 0 (o + 1)) P3) (C : CE E N q s0 j0 cs) (hK : KT E.2.2.2.1 kq y.2.2.1) (hA : AG s0 y.2.2.2.2) (hb : cs + (y.1 - c0) ≤ 3090) (h : pPost E.1 (prE E.1 (N + 1) (w + 1) 6 o) kq (k + 1) z = .inr y) (hi : i + (k + 1) = N + 1) (hk : k < n) (A : atC E N q s0 c0 cs j0 z.2.2.2.1 s z.1 t al l) (hzN : z.1 ≤ N) (hpt : (E.1 z.1).1 = 20 ∨ (E.1 z.1).1 = 46) (hnf : (E.1 z.1).1 = 46 → ¬ (E.1 (z.1 + 2)).1 = 61) : (∃ z' s' t' l', L_15_17 (mjF (d + 7)) (n + 1) 75 (b2 al) (tyI t) (nI i) (mjW0 s) = L_15_17 (mjF (d + 7)) n 75 (b2 false) (tyI t') (nI (i + 1)) (mjW0 s') ∧ pPost E.1 (prE E.1 (N + 1) (w + 1) 6 o) kq k z' = .inr y ∧ atC E N q s0 c0 cs j0 z'.2.2.2.1 s' z'.1 t' false l' ∧ z'.1 ≤ N ∧ ¬ (z'.2.1 = 2 ∧ (E.1 z'.1).1 = 61)) ∨ (∃ s' vv, L_15_17 (mjF (d + 7)) (n + 1) 75 (b2 al) (tyI t) (nI i) (mjW0 s) = some (some (.int (tyI vv)), mjW0 s') ∧ vv < 524290 ∧ ∃ z', pPost E.1 (prE E.1 (N + 1) (w + 1) 6 o) kq k z' = .inr y ∧ ¬ (z'.2.1 = 2 ∧ (E.1 z'.1).1 = 61) ∧ jrun E z'.2.2.2.1 j0 = none ∧ BC E.1 N q E.2.1 E.2.2.1 s' ∧ oC q s0 s') := by
  have hra : ∀ c kq x, prE E.1 (N + 1) (w + 1) 6 o c kq = .inr x → c < x.1 := fun c kq x hx => (prE_len (T := E.1) (M := N + 1) (w + 1) 6 o c kq x (by omega) hx).1
  have Cs : CE E N q s j0 (cs + l.length) := C.go A.2.2.2.2.2.2.1 A.2.2.2.1
  have hq' : q = 2 ∨ q = 30 := C.pq
  have hT := Cs.TH
  have h0 := hT.2.2.1
  have hN := hT.2.1
  have hn := C.1.hn
  have f := A.2.2.1
  have tl := A.2.1.lt hn
  have A8 := A.2.2.2.2.2.2.2
  have zy := (pPost_pre hra (k + 1) z y h).1
  have lb : cs + l.length ≤ 3090 := by omega
  have pre : L_15_17 (mjF (d + 7)) (n + 1) 75 (b2 al) (tyI t) (nI i) (mjW0 s) = _ := L15_S _ _ _ _ _ _ _
  unfold b_15_17 at pre
  rw [xg_75_0, xV_58, sz0 hT f.1 hzN, bI_s, if_neg (show ¬ nI (N + 1) ≤ nI i from nI_ge (by omega) (by omega)), xg_75_0, xV_58, j_is hT f.1 hzN, bI_s, i01, xg_75_0, xV_58, j_is hT f.1 hzN, bI_s, i01] at pre
  unfold pPost at h
  have xg : o58 s (tkGo s (z.1 + 1)) := o58.go _ _
  have C1 : CE E N q (tkGo s (z.1 + 1)) j0 (cs + l.length) := Cs.go xg.oe (by rw [xg.r (by omega)]; exact A.2.2.2.1)
  have f1 := f.go (z.1 + 1)
  have bad : ∀ (s1 : mjSt3) (vv : Nat), vv < 524290 → BC E.1 N q E.2.1 E.2.2.1 s1 → oC q s0 s1 → L_15_17 (mjF (d + 7)) (n + 1) 75 (b2 al) (tyI t) (nI i) (mjW0 s) = L_15_17 (mjF (d + 7)) n 75 0 (tyI vv) (nI (i + 1)) (mjW0 s1) → L_15_17 (mjF (d + 7)) (n + 1) 75 (b2 al) (tyI t) (nI i) (mjW0 s) = some (some (.int (tyI vv)), mjW0 s1) := by
    intro s1 vv hv hb1 hb2 pr
    obtain ⟨n', rfl⟩ : ∃ n', n = n' + 1 := ⟨n - 1, by omega⟩
    rw [n_15l hb1] at pr
    exact pr
  by_cases e20 : (E.1 z.1).1 = 20
  · rw [if_pos e20] at h
    have zN := lt_z h0 hzN e20 (by decide)
    rw [if_neg (by rw [e20]; decide), if_pos e20] at pre
    cases hp : pKind E.1 (z.1 + 1) with
    | inl x => rw [hp] at h; cases h
    | inr c' =>
      rw [hp] at h
      dsimp only at h
      obtain ⟨KD, ec⟩ := pKind_ok h0 (show z.1 + 1 ≤ N by omega) hp
      have cl := pKind_len hp
      have kl := KD.2.2.2.1
      obtain ⟨h1, pa, pb, pc, p1, p2, p3⟩ := pPost_pre hra k _ y h
      dsimp only at h1 p1 p2 p3
      have ha : E.2.2.2.1 (nI (kq + z.2.2.1.length)) = z.1 + 1 := by
        have K1 := (KT.app (show KT E.2.2.2.1 kq ((z.2.2.1 ++ [z.1 + 1]) ++ pa) from p1 ▸ hK)).1
        exact (KT.app K1).2 0 (z.1 + 1) rfl
      obtain ⟨G, B⟩ := x_kd (d := d + 4) C1 (by omega) f1 KD ha
      unfold b_15_52 at pre
      rw [xg_75_0, xV_58, j_now hT f.1 hzN, bI_s, xg_75_0, xV_58, j_skip hT f zN, bN_s, xg_75_0, xV_58, j_kind C1.TH f1.1 (by omega) hzN, bI_s, if_neg (show ¬ (E.1 z.1).1 = 46 by rw [e20]; decide), xg_75_2, xg_75_6, C1.2.1, xV_71] at pre
      have ar := as_row (E := E) (j0 := j0) (t := t) (al := al) (E.1 z.1).2.1 (nI (kq + z.2.2.1.length))
      cases hk' : kdE E (nI (kq + z.2.2.1.length)) with
      | none =>
        rw [hk'] at ar
        obtain ⟨kk, s1, kl2, y1, y2, y3⟩ := B hk'
        obtain ⟨s2, z1, z2, z3, z4⟩ := x_26 (d := d + 5) (t := z.1) y2.1 (GB.ob y2.2.1) hzN tl
        have b2s : BC E.1 N q E.2.1 E.2.2.1 s2 := by
          by_cases t0 : t = 0
          · exact BC.of58 y2.1 z2 (z4 t0) y2.2.2.1 y2.2.2.2
          · rw [z3 t0]; exact y2
        obtain ⟨s3, n', w1, w2, w3, w4, w5⟩ := n_emit (d := d + 6) b2s 15 (nI kk) (E.1 z.1).2.1
        rw [y1, bI_s, xV_75, z1, bN_s, xg_75_5, b2s.1.2.2.2.2.2.2.2, xg_75_0, xV_58, j_place b2s.1.1.1.1 b2s.2.1.1 (Nat.le_refl N) hzN, bI_s, ycV C.pq, w1, bI_s] at pre
        unfold b_15_137 at pre
        rw [nI_1] at pre
        have fr := A.2.2.2.2.2.2.1.C.tr (xg.C.tr (y3.C.tr (z2.C.tr w4)))
        refine Or.inr ⟨s3, kk + 2, bad s3 (kk + 2) (by omega) w3 fr pre, by omega, _, h, (fun x => by cases x.1), ?_, w3, fr⟩
        rw [jrun_app, A.1]
        dsimp only
        rw [jrun_1, ar]
      | some kk =>
        have vk := kd_E C1 ha hk'
        have vkl := vk.lt hn
        rw [hk'] at ar
        dsimp only at ar
        have ff := f1.go (z.1 + 1 + 2 + 2 * cntO E.1 6 (z.1 + 1 + 2))
        have x2 : o58 s (tkGo (tkGo s (z.1 + 1)) (z.1 + 1 + 2 + 2 * cntO E.1 6 (z.1 + 1 + 2))) := xg.tr (o58.go _ _)
        rw [← ec] at ff x2
        have C2 : CE E N q (tkGo (tkGo s (z.1 + 1)) c') j0 (cs + l.length) := Cs.go x2.oe (by rw [x2.r (by omega)]; exact A.2.2.2.1)
        obtain ⟨s2, z1, z2, z3, z4⟩ := x_26 (d := d + 5) (t := z.1) C2.1 (GB.of ff (by omega)) hzN tl
        rw [G kk hk', ← ec, bI_s, xV_75, z1, bN_s] at pre
        by_cases t0 : t = 0
        · rw [if_pos t0] at ar
          have b2s : BC E.1 N q E.2.1 E.2.2.1 s2 := C2.bad (by omega) z2 (z4 t0)
          obtain ⟨s3, n', w1, w2, w3, w4, w5⟩ := n_emit (d := d + 6) b2s 15 (nI kk) (E.1 z.1).2.1
          rw [xg_75_5, b2s.1.2.2.2.2.2.2.2, xg_75_0, xV_58, j_place b2s.1.1.1.1 b2s.2.1.1 (Nat.le_refl N) hzN, bI_s, ycV C.pq, w1, bI_s] at pre
          unfold b_15_137 at pre
          rw [nI_1] at pre
          have fr := A.2.2.2.2.2.2.1.C.tr (x2.C.tr (z2.C.tr w4))
          refine Or.inr ⟨s3, kk + 2, bad s3 (kk + 2) (by omega) w3 fr pre, by omega, _, h, (fun x => by cases x.1), ?_, w3, fr⟩
          rw [jrun_app, A.1]
          dsimp only
          rw [jrun_1, ar]
        · rw [if_neg t0] at ar
          rw [z3 t0] at pre
          have A2 := A.t58 C.pq x2 ff (show z.1 ≤ c' by omega)
          obtain ⟨s3, w1, w2, w3⟩ := A2.put (d := d + 6) C 15 (nI kk) (E.1 z.1).2.1 ar (Or.inr (Or.inr ⟨kk, rfl, vk⟩)) (by omega) (by omega)
          rw [xg_75_5, C2.1.2.2.2.2.2.2.2, xg_75_0, xV_58, j_place C2.TH ff.1 (by omega) hzN, bI_s, ycV C.pq, w1, bI_s] at pre
          unfold b_15_137 at pre
          rw [nI_1] at pre
          exact Or.inl ⟨_, s3, kk + 2, _, pre, h, w2, (by show c' ≤ N; omega), (fun x => by cases x.1)⟩
  rw [if_neg e20] at h
  by_cases e46 : (E.1 z.1).1 = 46
  · rw [if_pos e46] at h
    have zN := lt_z h0 hzN e46 (by decide)
    rw [if_pos e46] at pre
    unfold b_15_52 at pre
    rw [xg_75_0, xV_58, j_now hT f.1 hzN, bI_s, xg_75_0, xV_58, j_skip hT f zN, bN_s, xg_75_0, xV_58, j_kind C1.TH f1.1 (by omega) hzN, bI_s, if_pos e46, xV_75] at pre
    by_cases e3 : (E.1 (z.1 + 1)).1 = 3
    · rw [if_pos e3] at h
      have z1N := lt_z h0 (show z.1 + 1 ≤ N by omega) e3 (by decide)
      have A1 := A.t58 C.pq xg f1 (show z.1 ≤ z.1 + 1 by omega)
      by_cases e40 : (E.1 (z.1 + 2)).1 = 40
      · rw [if_pos e40] at h
        obtain ⟨G, B⟩ := x_22a (d := d) (nt := z.1 + 1) (isM := true) C A1 (by omega) lb e3 (by omega) (decide_eq_true e40).symm
        cases hd : prE E.1 (N + 1) (w + 1) 6 o (z.1 + 2) (kq + z.2.2.1.length) with
        | inl x => rw [hd] at h; cases h
        | inr x =>
          rw [hd] at h
          dsimp only at h
          have zx := hra _ _ _ hd
          obtain ⟨h1, pa, pb, pc, p1, p2, p3⟩ := pPost_pre hra k _ y h
          dsimp only at h1 p1 p2 p3
          rw [prE_6] at hd
          have K1 := (KT.app (KT.app (show KT E.2.2.2.1 kq ((z.2.2.1 ++ x.2.2.1) ++ pa) from p1 ▸ hK)).1).2
          have G1 : AG s0 x.2.2.2.2 := (AG.app (AG.app (show AG s0 ((z.2.2.2.2 ++ x.2.2.2.2) ++ pc) from p3 ▸ hA)).1).2
          cases hp : prtE E (t, al) (E.1 (z.1 + 1)).2.2.1 true with
          | none =>
            obtain ⟨s1, vv, y1, yv, y2, y3⟩ := B hp
            rw [y1, bI_s] at pre
            unfold b_15_137 at pre
            rw [nI_1] at pre
            refine Or.inr ⟨s1, vv, bad s1 vv yv y2 y3 pre, yv, _, h, (fun x => by cases x.1), ?_, y2, y3⟩
            have ej : ∃ cn r, x.2.2.2.1 = oAsk E.1 (z.1 + 2) cn :: r := by
              unfold pCall at hd
              by_cases o12 : o = 12
              · rw [if_pos o12] at hd; cases hd
              · rw [if_neg o12] at hd
                by_cases g : (E.1 (z.1 + 2 + 1)).1 = 41
                · rw [if_pos g] at hd; cases hd; exact ⟨_, _, rfl⟩
                · rw [if_neg g] at hd
                  cases hpa : pArgs E.1 (prE E.1 (N + 1) w 0 (o + 1)) (kq + z.2.2.1.length) 7 0 (z.1 + 2 + 1, 0, [], [], []) with
                  | inl e => rw [hpa] at hd; cases hd
                  | inr y' => rw [hpa] at hd; cases hd; exact ⟨_, _, rfl⟩
            obtain ⟨cn, r, er⟩ := ej
            show jrun E (z.2.2.2.1 ++ x.2.2.2.1) j0 = none
            rw [er]
            exact jrun_no3 A.1 (ask_no _ _ _ hp)
          | some p =>
            obtain ⟨s1, x1, fs, g1⟩ := G p hp
            rw [show b2 true = (1 : Int32) from rfl, if_neg (by decide)] at g1
            have A2 := A1.t58 C.pq x1 fs (show z.1 + 1 ≤ z.1 + 1 + 1 by omega)
            obtain ⟨kk, _, _, _, _, ok, _⟩ := prt_v C A.2.1 hp
            have X := x_23 (d := d) (nt := z.1 + 1) ih C A2 (by omega) hp (by omega) e40 hd K1 (G1.oE C.pq A2.2.2.2.2.2.2.1) (by omega)
            rcases X with ⟨s2, l2, w1, w2, w3, w4⟩ | ⟨s2, w1, w2⟩
            · have CB2 := (C.go w2.2.2.2.2.2.2.1 w2.2.2.2.1).1
              rw [g1, w1, bN_s, x_176 CB2 ok, bI_s] at pre
              unfold b_15_137 at pre
              rw [nI_1] at pre
              exact Or.inl ⟨_, s2, _, l2, pre, h, w2, w3, (fun x => by cases x.1)⟩
            · rw [g1, w1, bN_s, x_176 w2.2.1.1 ok, bI_s] at pre
              unfold b_15_137 at pre
              rw [nI_1] at pre
              refine Or.inr ⟨s2, _, bad s2 _ (st_lt C.1 ok) w2.2.1 w2.2.2 pre, st_lt C.1 ok, _, h, (fun x => by cases x.1), ?_, w2.2.1, w2.2.2⟩
              exact w2.1
      · rw [if_neg e40] at h
        obtain ⟨G, B⟩ := x_22a (d := d) (nt := z.1 + 1) (isM := false) C A1 (by omega) lb e3 (by omega) (decide_eq_false e40).symm
        obtain ⟨h1, pa, pb, pc, p1, p2, p3⟩ := pPost_pre hra k _ y h
        dsimp only at h1 p1 p2 p3
        have n61 : ¬ (E.1 (z.1 + 1 + 1)).1 = 61 := hnf e46
        cases hp : prtE E (t, al) (E.1 (z.1 + 1)).2.2.1 false with
        | none =>
          obtain ⟨s1, vv, y1, yv, y2, y3⟩ := B hp
          rw [y1, bI_s] at pre
          unfold b_15_137 at pre
          rw [nI_1] at pre
          refine Or.inr ⟨s1, vv, bad s1 vv yv y2 y3 pre, yv, _, h, (fun x => hnf e46 x.2), ?_, y2, y3⟩
          rw [jrun_app, A.1]
          dsimp only
          rw [jrun_1, fld_no _ _ hp]
        | some p =>
          obtain ⟨s1, x1, fs, g1⟩ := G p hp
          rw [show b2 false = (0 : Int32) from rfl, if_pos rfl] at g1
          have A2 := A1.t58 C.pq x1 fs (show z.1 + 1 ≤ z.1 + 1 + 1 by omega)
          obtain ⟨kk, _, _, _, _, ok, _⟩ := prt_v C A.2.1 hp
          obtain ⟨s2, w1, w2⟩ := x_24 (d := d + 4) (nt := z.1 + 1) C A2 (by omega) n61 (by omega) (by omega) lb hp
          have CB2 := (C.go w2.2.2.2.2.2.2.1 w2.2.2.2.1).1
          rw [g1, w1, bN_s, x_176 CB2 ok, bI_s] at pre
          unfold b_15_137 at pre
          rw [nI_1] at pre
          exact Or.inl ⟨_, s2, _, _, pre, h, w2, (by show z.1 + 2 ≤ N; omega), (fun x => hnf e46 x.2)⟩
    · rw [if_neg e3] at h; cases h
  · rcases hpt with g | g
    · exact absurd g e20
    · exact absurd g e46
end MJA35
end
section
/-! ===== the Coder: a FIELD left of = ===== -/
def oU (q : Nat) : mjSt3 → mjSt3 → Prop := offG (fun h j => c58 h j ∨ (h = q + 24 ∧ j = 3) ∨ (q + 25 ≤ h ∧ h ≤ q + 27) ∨ (h = 75 ∧ 13 ≤ j ∧ j ≤ 16)) (fun _ _ => False)
/-- the TYPE and the number of what is left of =; the TYPE of its object -/
def jLf (j : JS) (t f : Nat) (rs : List Nat) : JS := ((t, false) :: j.1, j.2.1, j.2.2.1, j.2.2.2.1, j.2.2.2.2.1, j.2.2.2.2.2.1, f, rs)
def gLf (E : EV) (N q : Nat) (s0 : mjSt3) (c0 cs : Nat) (j0 : JS) (os : List Row) (u : mjU) (c' : Nat) : Prop := (∃ s t f t0 l, u = some (some (.int (tyI t)), mjW0 s) ∧ jrun E (oLeft 2 os) j0 = some (jLf j0 t f (t0 :: jRS j0), l) ∧ vT E.2.1 t ∧ fne s c' ∧ s.1 (q + 24) 3 = nI (cs + l.length) ∧ CL q s cs l ∧ CP q cs s0 s ∧ oU q s0 s ∧ l.length + c0 + 2 ≤ c' ∧ c' ≤ N ∧ s.1 75 13 = 4 ∧ s.1 75 14 = nI f ∧ s.1 75 15 = (oLast os).2.1) ∨ (∃ s v, u = some (some (.int (tyI v)), mjW0 s) ∧ v < 524290 ∧ jrun E (oLeft 2 os) j0 = none ∧ BC E.1 N q E.2.1 E.2.2.1 s ∧ oC q s0 s)
theorem oLeft_c (sh : Int32) (a : List Row) (r : Row) : oLeft sh (a ++ [r]) = a ++ [(if sh = 1 then 15 else 16, r.2)] ∧ oLast (a ++ [r]) = r := by
  unfold oLeft oLast
  rw [List.dropLast_concat, List.getLastD_concat]
  exact ⟨rfl, rfl⟩
theorem pPost_last {T : TT} {ra : Nat → Nat → PX} {kq : Nat} : ∀ (k : Nat) (z y : PZ), pPost T ra kq k z = .inr y → y.2.1 = 2 → (T y.1).1 = 61 → ¬ (z.2.1 = 2 ∧ (T z.1).1 = 61) → ∃ b r, y.2.2.2.1 = z.2.2.2.1 ++ (b ++ [r])
  | 0, z, y, h, h2, h61, hn => by cases h; exact absurd ⟨h2, h61⟩ hn
  | k + 1, z, y, h, h2, h61, hn => by
    unfold pPost at h
    by_cases g : (T z.1).1 = 20
    · rw [if_pos g] at h
      cases hd : pKind T (z.1 + 1) with
      | inl e => rw [hd] at h; cases h
      | inr c' =>
        rw [hd] at h
        obtain ⟨b, r, e⟩ := pPost_last k _ y h h2 h61 (fun x => by cases x.1)
        exact ⟨_, r, by rw [e, List.append_assoc, ← List.append_assoc _ b]⟩
    · rw [if_neg g] at h
      by_cases g2 : (T z.1).1 = 46
      · rw [if_pos g2] at h
        by_cases g3 : (T (z.1 + 1)).1 = 3
        · rw [if_pos g3] at h
          by_cases g4 : (T (z.1 + 2)).1 = 40
          · rw [if_pos g4] at h
            cases hd : ra (z.1 + 2) (kq + z.2.2.1.length) with
            | inl e => rw [hd] at h; cases h
            | inr x =>
              rw [hd] at h
              obtain ⟨b, r, e⟩ := pPost_last k _ y h h2 h61 (fun x => by cases x.1)
              exact ⟨_, r, by rw [e, List.append_assoc, ← List.append_assoc _ b]⟩
          · rw [if_neg g4] at h
            by_cases g5 : (T (z.1 + 2)).1 = 61
            · have := pPost_end h g5
              rw [this]
              exact ⟨[], _, rfl⟩
            · obtain ⟨b, r, e⟩ := pPost_last k _ y h h2 h61 (fun x => g5 x.2)
              exact ⟨_, r, by rw [e, List.append_assoc, ← List.append_assoc _ b]⟩
        · rw [if_neg g3] at h; cases h
      · rw [if_neg g2] at h
        cases h
        exact absurd ⟨h2, h61⟩ hn
section MJA36
variable {E : EV} {d N q c t n e k u v i m o w cs c0 kq nt D me : Nat} {s s' s0 : mjSt3} {j j0 : JS} {y z : PZ} {p : Nat × Nat} {os : List Row} {rs : List Nat} {l : List Ins} {al isM : Bool}
theorem oE.U (x : oE q s s') : oU q s s' := offG.mono x (fun a b h => by
  rcases h with h | h | h
  · exact Or.inl h
  · exact Or.inr (Or.inl h)
  · exact Or.inr (Or.inr (Or.inl h))) (fun _ _ h => h.elim)
theorem oU.C (x : oU q s s') : oC q s s' := offG.mono x (fun a b h => by
  rcases h with h | h | h | h
  · exact Or.inl h
  · exact Or.inr (Or.inr (Or.inr (Or.inr (Or.inl h))))
  · exact Or.inr (Or.inr (Or.inr (Or.inr (Or.inr (Or.inl h)))))
  · exact Or.inr (Or.inl ⟨h.1, by omega, by omega⟩)) (fun _ _ h => h.elim)
theorem oU.r (x : oU q s s') {h : Nat} (hh : ¬ (h = 58 ∨ h = 75 ∨ (q + 24 ≤ h ∧ h ≤ q + 27))) : s'.1 h = s.1 h := funext fun j => x.1 h j (by unfold c58; omega)
theorem oU.f (hq : isP q) (x : oU q s s') {j : Nat} (hh : ¬ (13 ≤ j ∧ j ≤ 16)) : s'.1 75 j = s.1 75 j := x.1 75 j (by
  have hq : q = 2 ∨ q = 30 := hq
  unfold c58; omega)
theorem oU.lg (x : oU q s s') : s'.2 = s.2 := by
  have a : s'.2.1 = s.2.1 := funext fun h => funext fun j => x.2.1 h j (fun e => e)
  exact Prod.ext a x.2.2
theorem VSr.oU {T : TT} {L : List CD} {vs : List VE} {td : Nat} (V : VSr T N L vs td s) (hq : isP q) (x : oU q s s') : VSr T N L vs td s' := by
  have hq' : q = 2 ∨ q = 30 := hq
  unfold VSr
  rw [x.f hq (by omega), x.f hq (by omega), x.r (by omega), x.r (by omega), x.lg]
  exact V
theorem CE.goU (C : CE E N q s j cs) (x : oU q s s') (h : s'.1 (q + 24) 3 = nI n) : CE E N q s' j n := by
  have hq : q = 2 ∨ q = 30 := C.pq
  exact ⟨C.1.oC x.C, by rw [x.f C.pq (by omega)]; exact C.2.1, C.2.2.1, C.2.2.2.1.oU C.pq x, h⟩
theorem AG.oU {l : List (Nat × Nat)} (A : AG s l) (hq : isP q) (x : oU q s s') : AG s' l := by
  have hq' : q = 2 ∨ q = 30 := hq
  unfold AG; rw [x.r (by omega)]; exact A
/-- aim -/
theorem x_25 (a b c : Int32) : ∃ s', mjF (d + 1) 25 [.ref 75, .int a, .int b, .int c] (mjW0 s) = some (none, mjW0 s') ∧ s'.1 75 13 = a ∧ s'.1 75 14 = b ∧ s'.1 75 15 = c ∧ (∀ j, ¬ (13 ≤ j ∧ j ≤ 15) → s'.1 75 j = s.1 75 j) ∧ (∀ h, ¬ h = 75 → s'.1 h = s.1 h) ∧ s'.2 = s.2 := by
  obtain ⟨z1, h1⟩ : ∃ z, z = uI s 75 (upd (s.1 75) 13 a) := ⟨_, rfl⟩
  obtain ⟨z2, h2⟩ : ∃ z, z = uI z1 75 (upd (z1.1 75) 14 b) := ⟨_, rfl⟩
  obtain ⟨z3, h3⟩ : ∃ z, z = uI z2 75 (upd (z2.1 75) 15 c) := ⟨_, rfl⟩
  have e3 : ∀ j, z3.1 75 j = if j = 15 then c else if j = 14 then b else if j = 13 then a else s.1 75 j := by
    intro j
    rw [h3, uI_same, upd_g, h2, uI_same, upd_g, h1, uI_same, upd_g]
  refine ⟨z3, ?_, by rw [e3]; rfl, by rw [e3]; rfl, by rw [e3]; rfl, fun j hj => ?_, fun h hh => ?_, by rw [h3, h2, h1]; rfl⟩
  · rw [e_25]
    unfold f_25 b_25_0
    rw [xp_75_13, ← h1, xp_75_14, ← h2, xp_75_15, ← h3]
  · rw [e3, if_neg (by omega), if_neg (by omega), if_neg (by omega)]
  · rw [h3, uI_ne _ _ _ _ hh, h2, uI_ne _ _ _ _ hh, h1, uI_ne _ _ _ _ hh]
theorem oU.aim (hj : ∀ j, ¬ (13 ≤ j ∧ j ≤ 16) → s'.1 75 j = s.1 75 j) (hh : ∀ h, ¬ h = 75 → s'.1 h = s.1 h) (h2 : s'.2 = s.2) : oU q s s' := by
  refine ⟨fun h k hk => ?_, fun h k _ => by rw [h2], by rw [h2]⟩
  by_cases e : h = 75
  · rw [e]
    exact hj k (fun g => hk (Or.inr (Or.inr (Or.inr ⟨e, g.1, g.2⟩))))
  · rw [hh h e]
theorem L15_x (hT : TH E.1 N s) (f : fne s c) (hc : c ≤ N) (h1 : ¬ (E.1 c).1 = 46) (h2 : ¬ (E.1 c).1 = 20) (a b e : Int32) : L_15_17 (mjF (d + 1)) (n + 1) 75 a b e (mjW0 s) = some (some (.int b), mjW0 s) := by
  rw [L15_S]
  unfold b_15_17 b_15_145
  rw [xg_75_0, xV_58, sz0 hT f.1 hc, bI_s, xg_75_0, xV_58, j_is hT f.1 hc, bI_s, i01, if_neg h1, xg_75_0, xV_58, j_is hT f.1 hc, bI_s, i01, if_neg h2, ite_self]
theorem lf_row (x : Int32) (nm : Int64) : jrow E (16, x, 0, 0, nm) (jE j0 t al) = match prtE E (t, al) nm false with
    | none => none
    | some p => some (jLf j0 (sty (nmL E.2.1) (tyM E.1 E.2.1 p.1) p.2) (numM E.1 E.2.1 p.1) (t :: jRS j0), []) := rfl
/-- the loop of codePost, left of = -/
theorem postL (ih : ¬ o = 12 → hE E N q (d + 5) 11 (prE E.1 (N + 1) w 0 (o + 1)) P3) (C : CE E N q s0 j0 cs) (h61 : (E.1 y.1).1 = 61) (h2 : y.2.1 = 2) (hK : KT E.2.2.2.1 kq y.2.2.1) (hA : AG s0 y.2.2.2.2) (hb : cs + (y.1 - c0) ≤ 3090) : ∀ (k n i : Nat) (z : PZ) (s : mjSt3) (t : Nat) (al : Bool) (l : List Ins), pPost E.1 (prE E.1 (N + 1) (w + 1) 6 o) kq k z = .inr y → i + k = N + 1 → k < n → atC E N q s0 c0 cs j0 z.2.2.2.1 s z.1 t al l → z.1 ≤ N → ¬ (z.2.1 = 2 ∧ (E.1 z.1).1 = 61) → gLf E N q s0 c0 cs j0 y.2.2.2.1 (L_15_17 (mjF (d + 7)) n 75 (b2 al) (tyI t) (nI i) (mjW0 s)) y.1
  | k, 0, i, z, s, t, al, l, h, hi, hk, A, hzN, hs => by omega
  | 0, n + 1, i, z, s, t, al, l, h, hi, hk, A, hzN, hs => by
    cases h
    exact absurd ⟨h2, h61⟩ hs
  | k + 1, n + 1, i, z, s, t, al, l, h, hi, hk, A, hzN, hs => by
    by_cases pt : (E.1 z.1).1 = 20 ∨ (E.1 z.1).1 = 46
    · by_cases fin : (E.1 z.1).1 = 46 ∧ (E.1 (z.1 + 2)).1 = 61
      · obtain ⟨e46, e61⟩ := fin
        have Cs : CE E N q s j0 (cs + l.length) := C.go A.2.2.2.2.2.2.1 A.2.2.2.1
        have hq' : q = 2 ∨ q = 30 := C.pq
        have hT := Cs.TH
        have h0 := hT.2.2.1
        have hN := hT.2.1
        have f := A.2.2.1
        have zN := lt_z h0 hzN e46 (by decide)
        have A8 := A.2.2.2.2.2.2.2
        unfold pPost at h
        rw [if_neg (by rw [e46]; decide), if_pos e46] at h
        by_cases e3 : (E.1 (z.1 + 1)).1 = 3
        · rw [if_pos e3, if_neg (by rw [e61]; decide)] at h
          have z1N := lt_z h0 (show z.1 + 1 ≤ N by omega) e3 (by decide)
          have ey := pPost_end h e61
          rw [ey] at hb ⊢
          dsimp only at hb ⊢
          obtain ⟨ol, oa⟩ := oLeft_c 2 z.2.2.2.1 (10, (E.1 (z.1 + 1)).2.1, 0, 0, (E.1 (z.1 + 1)).2.2.1)
          have lb : cs + l.length ≤ 3090 := by omega
          have xg : o58 s (tkGo s (z.1 + 1)) := o58.go _ _
          have C1 : CE E N q (tkGo s (z.1 + 1)) j0 (cs + l.length) := Cs.go xg.oe (by rw [xg.r (by omega)]; exact A.2.2.2.1)
          have f1 := f.go (z.1 + 1)
          have A1 := A.t58 C.pq xg f1 (show z.1 ≤ z.1 + 1 by omega)
          obtain ⟨n', rfl⟩ : ∃ n', n = n' + 1 := ⟨n - 1, by omega⟩
          have pre : L_15_17 (mjF (d + 7)) (n' + 1 + 1) 75 (b2 al) (tyI t) (nI i) (mjW0 s) = _ := L15_S _ _ _ _ _ _ _
          unfold b_15_17 at pre
          rw [xg_75_0, xV_58, sz0 hT f.1 hzN, bI_s, if_neg (show ¬ nI (N + 1) ≤ nI i from nI_ge (by omega) (by omega)), xg_75_0, xV_58, j_is hT f.1 hzN, bI_s, i01, if_pos e46] at pre
          unfold b_15_52 at pre
          rw [xg_75_0, xV_58, j_now hT f.1 hzN, bI_s, xg_75_0, xV_58, j_skip hT f zN, bN_s, xg_75_0, xV_58, j_kind C1.TH f1.1 (by omega) hzN, bI_s, if_pos e46, xV_75] at pre
          obtain ⟨G, B⟩ := x_22a (d := d) (nt := z.1 + 1) (isM := false) C A1 (by omega) lb e3 (by omega) (decide_eq_false (by rw [show z.1 + 1 + 1 = z.1 + 2 from rfl, e61]; decide)).symm
          have lr := lf_row (E := E) (j0 := j0) (t := t) (al := al) (E.1 (z.1 + 1)).2.1 (E.1 (z.1 + 1)).2.2.1
          have jz : jrun E (oLeft 2 (z.2.2.2.1 ++ [(10, (E.1 (z.1 + 1)).2.1, 0, 0, (E.1 (z.1 + 1)).2.2.1)])) j0 = match jrow E (16, (E.1 (z.1 + 1)).2.1, 0, 0, (E.1 (z.1 + 1)).2.2.1) (jE j0 t al) with
              | none => none
              | some (j2, c2) => some (j2, l ++ c2) := by
            rw [ol, jrun_app, A.1]
            dsimp only
            rw [jrun_1]
            rfl
          cases hp : prtE E (t, al) (E.1 (z.1 + 1)).2.2.1 false with
          | none =>
            rw [hp] at lr
            rw [lr] at jz
            obtain ⟨s1, vv, y1, yv, y2, y3⟩ := B hp
            rw [y1, bI_s] at pre
            unfold b_15_137 at pre
            rw [n_15l y2] at pre
            exact Or.inr ⟨s1, vv, pre, yv, jz, y2, y3⟩
          | some p =>
            rw [hp] at lr
            dsimp only at lr
            rw [lr] at jz
            obtain ⟨s1, x1, fs, g1⟩ := G p hp
            rw [show b2 false = (0 : Int32) from rfl, if_pos rfl] at g1
            have A2 := A1.t58 C.pq x1 fs (show z.1 + 1 ≤ z.1 + 1 + 1 by omega)
            obtain ⟨kk, _, _, _, _, ok, _⟩ := prt_v C A.2.1 hp
            have C2 := C.go A2.2.2.2.2.2.2.1 A2.2.2.2.1
            have d3 := C2.1.2.1.2.2.1
            have hm := ok.1
            obtain ⟨s2, w1, w2, w3, w4, w5, w6, w7⟩ := x_25 (d := d + 4) (s := s1) 4 (nI (numM E.1 E.2.1 p.1)) (E.1 (z.1 + 1)).2.1
            have e24 : mjF (d + 6) 24 [.ref 75, .int (nI p.1), .int (nI (z.1 + 1))] (mjW0 s1) = some (none, mjW0 s2) := by
              rw [e_24]
              unfold f_24 b_24_0
              rw [xg_75_0, xV_58, j_place C2.TH fs.1 (by omega) (by omega), bI_s, xg_75_0, xV_58, j_is C2.TH fs.1 (by omega), bI_s, i01, if_pos e61, xg_75_4, C2.1.2.2.2.2.2.2.1, ymg_5 C.pq, wya_19 C.pq (by omega), (C2.1.1.2.2.2.2.2.1 p.1 hm).1, xV_75, w1, bN_s]
            have u2 : oU q s1 s2 := oU.aim (fun j hj => w5 j (by omega)) w6 w7
            have uu : oU q s0 s2 := A2.2.2.2.2.2.2.1.U.tr u2
            have sz : s2.1 (q + 24) 3 = nI (cs + l.length) := by rw [w6 _ (by omega)]; exact A2.2.2.2.1
            have C3 := C.goU uu sz
            have f2 : fne s2 (z.1 + 2) := ⟨by rw [w6 _ (by omega)]; exact fs.1, by rw [w6 _ (by omega)]; exact fs.2⟩
            have cp : CP q (cs + l.length) s1 s2 := fun j _ => by
              rw [w6 _ (by omega), w6 _ (by omega), w6 _ (by omega)]
              exact ⟨rfl, rfl, rfl⟩
            have tv : vT E.2.1 (tyM E.1 E.2.1 p.1) := ty_v C.1.hn (fun c hc => by cases hc; exact (C.1.2.1.2.2.2.2 p.1 ok.1).2.1)
            rw [g1, e24, bN_s, x_176 C3.1 ok, bI_s] at pre
            unfold b_15_137 at pre
            rw [L15_x C3.TH f2 (by omega) (by rw [e61]; decide) (by rw [e61]; decide)] at pre
            refine Or.inl ⟨s2, _, numM E.1 E.2.1 p.1, t, l, pre, ?_, tv.sty C.1.hn ok.2, f2, sz, A2.2.2.2.2.1.keep cp, CP.trn A2.2.2.2.2.2.1 (cp.mono (by omega)), uu, ?_, ?_, w2, w3, ?_⟩
            · rw [jz]
              dsimp only
              rw [List.append_nil]
            · show l.length + c0 + 2 ≤ z.1 + 2; omega
            · show z.1 + 2 ≤ N; omega
            · rw [w4, oa]
        · rw [if_neg e3] at h; cases h
      · have S := postS (d := d) (n := n) ih C hK hA hb h hi (by omega) A hzN pt (fun a b => fin ⟨a, b⟩)
        rcases S with ⟨z', s', t', l', r1, r2, r3, r4, r5⟩ | ⟨s', vv, r1, rv, z', r2, r3, r4, r5, r6⟩
        · rw [r1]
          exact postL ih C h61 h2 hK hA hb k n (i + 1) z' s' t' false l' r2 (by omega) (by omega) r3 r4 r5
        · refine Or.inr ⟨s', vv, r1, rv, ?_, r5, r6⟩
          obtain ⟨b, r, e⟩ := pPost_last k z' y r2 h2 h61 r3
          rw [e, ← List.append_assoc, (oLeft_c 2 (z'.2.2.2.1 ++ b) r).1]
          exact jrun_no (jrun_no r4)
    · unfold pPost at h
      rw [if_neg (fun x => pt (Or.inl x)), if_neg (fun x => pt (Or.inr x))] at h
      cases h
      exact absurd ⟨h2, h61⟩ hs
end MJA36
end
section
/-! ===== the Coder: left of = (11), what fits (32) ===== -/
def hL (E : EV) (N q D me : Nat) (rd : Nat → Nat → PX) : Prop := ∀ (c kq cs : Nat) (s : mjSt3) (j : JS) (z : PZ), c ≤ N → CE E N q s j cs → fne s c → rd c kq = .inr z → (E.1 z.1).1 = 61 → z.2.1 = 2 → KT E.2.2.2.1 kq z.2.2.1 → AG s z.2.2.2.2 → cs + (z.1 - c) ≤ 3090 → gLf E N q s c cs j z.2.2.2.1 (mjF D me [.ref 75] (mjW0 s)) z.1
theorem pAtom_n2 {T : TT} {rv : Nat → Nat → PX} {o c kq : Nat} {z : PZ} (h : pAtom T rv o c kq = .inr z) : ¬ z.2.1 = 2 := by
  unfold pAtom at h
  by_cases e3 : (T c).1 = 3
  · rw [if_pos e3] at h; cases h; exact fun x => by cases x
  rw [if_neg e3] at h
  by_cases e4 : (T c).1 = 4
  · rw [if_pos e4] at h; cases h; exact fun x => by cases x
  rw [if_neg e4] at h
  by_cases e11 : (T c).1 = 11
  · rw [if_pos e11] at h; cases h; exact fun x => by cases x
  rw [if_neg e11] at h
  by_cases e12 : (T c).1 = 12
  · rw [if_pos e12] at h; cases h; exact fun x => by cases x
  rw [if_neg e12] at h
  by_cases e14 : (T c).1 = 14
  · rw [if_pos e14] at h
    cases hp : pKind T (c + 1) with
    | inl x => rw [hp] at h; cases h
    | inr c' => rw [hp] at h; cases h; exact fun x => by cases x
  rw [if_neg e14] at h
  by_cases e40 : (T c).1 = 40
  · rw [if_pos e40] at h
    by_cases o12 : o = 12
    · rw [if_pos o12] at h; cases h
    rw [if_neg o12] at h
    cases hp : rv (c + 1) kq with
    | inl x => rw [hp] at h; cases h
    | inr y =>
      rw [hp] at h
      dsimp only at h
      by_cases g : (T y.1).1 = 41
      · rw [if_pos g] at h; cases h; exact fun x => by cases x
      · rw [if_neg g] at h; cases h
  · rw [if_neg e40] at h; cases h
theorem pLoop_s0 {T : TT} {sg : Int32 → Bool} {rd : Nat → Nat → PX} {kq : Nat} : ∀ (k : Nat) (z y : PZ), pLoop T sg rd kq k z = .inr y → y = z ∨ y.2.1 = 0
  | 0, z, y, h => by cases h; exact Or.inl rfl
  | k + 1, z, y, h => by
    unfold pLoop at h
    by_cases g : sg (T z.1).1 = true
    · rw [if_pos g] at h
      cases hd : rd (z.1 + 1) (kq + z.2.2.1.length) with
      | inl e => rw [hd] at h; cases h
      | inr x =>
        rw [hd] at h
        rcases pLoop_s0 k _ y h with e | e
        · rw [e]; exact Or.inr rfl
        · exact Or.inr e
    · rw [if_neg g] at h
      cases h
      exact Or.inl rfl
section MJA37
variable {E : EV} {d N q c t n e k u v i m o w cs c0 kq nt D me : Nat} {s s' s0 : mjSt3} {j j0 : JS} {y z : PZ} {p : Nat × Nat} {os : List Row} {rs : List Nat} {l : List Ins} {al isM : Bool}
theorem x_15L (ih : ¬ o = 12 → hE E N q (d + 5) 11 (prE E.1 (N + 1) w 0 (o + 1)) P3) (ih2 : ¬ o = 12 → hE E N q (d + 6) 11 (prE E.1 (N + 1) w 0 (o + 1)) P3) : hL E N q (d + 8) 15 (prE E.1 (N + 1) (w + 2) 4 o) := by
  intro c kq cs s j z hc C f hz h61 h2 hK hA hn
  have hT := C.TH
  have hra : ∀ c kq x, prE E.1 (N + 1) (w + 1) 6 o c kq = .inr x → c < x.1 := fun c kq x hx => (prE_len (T := E.1) (M := N + 1) (w + 1) 6 o c kq x (by omega) hx).1
  have pre : mjF (d + 8) 15 [.ref 75] (mjW0 s) = _ := e_15 (d := d + 7)
  unfold f_15 b_15_0 at pre
  rw [xg_75_0, xV_58, j_is hT f.1 hc, bI_s, xV_75] at pre
  rw [prE_4] at hz
  cases ha : prE E.1 (N + 1) (w + 1) 5 o c kq with
  | inl x => rw [ha] at hz; cases hz
  | inr x =>
    rw [ha] at hz
    dsimp only at hz
    obtain ⟨h1, pa, pb, pc, p1, p2, p3⟩ := pPost_pre hra _ _ z hz
    have hx := (prE_len (T := E.1) (M := N + 1) (w + 1) 5 o c kq x (by omega) ha).1
    rw [prE_5] at ha
    have sh := pAtom_n2 ha
    have a61 : ¬ (E.1 x.1).1 = 61 := by
      intro g
      have := pPost_end hz g
      rw [this] at h2
      exact sh h2
    have G := x_16 (d := d + 1) ih2 c kq cs s j x hc C f ha a61 ((KT.app (p1 ▸ hK)).1) ((AG.app (p3 ▸ hA)).1) (by omega)
    rcases G with ⟨s1, t, al, l, g1, g2, g3, g4⟩ | ⟨s1, vv, g1, g2, g3⟩
    · have g4 : al = decide ((E.1 c).1 = 12) := g4
      have eb : (if (E.1 c).1 = 12 then (1 : Int32) else 0) = b2 al := by
        rw [g4]
        by_cases g : (E.1 c).1 = 12
        · rw [if_pos g, decide_eq_true g]; rfl
        · rw [if_neg g, decide_eq_false g]; rfl
      rw [g1, bI_s, eb, show (0 : Int32) = nI 0 from rfl] at pre
      rw [pre]
      exact postL ih C h61 h2 hK hA hn (N + 1) mjN 0 x s1 t al l hz (by omega) (by have := mjN_v; have := hT.2.1; omega) g2 g3 (fun e => sh e.1)
    · rw [g1, bI_s, show mjN = 99999999 + 1 from rfl, n_15l g3.2.1] at pre
      refine Or.inr ⟨s1, vv, pre, g2, ?_, g3.2⟩
      obtain ⟨b, r, e⟩ := pPost_last _ x z hz h2 h61 (fun e => sh e.1)
      rw [e, ← List.append_assoc, (oLeft_c 2 (x.2.2.2.1 ++ b) r).1]
      exact jrun_no (jrun_no g3.1)
theorem x_14L (h15 : hL E N q (d + 2) 15 (prE E.1 (N + 1) w 4 o)) : hL E N q (d + 3) 14 (prE E.1 (N + 1) (w + 1) 3 o) := by
  intro c kq cs s j z hc C f hz h61 h2 hK hA hb
  have hT := C.TH
  have pre : mjF (d + 3) 14 [.ref 75] (mjW0 s) = _ := e_14 (d := d + 2)
  unfold f_14 b_14_0 at pre
  rw [xg_75_0, xV_58, j_is hT f.1 hc, bI_s, i01] at pre
  rw [prE_3] at hz
  by_cases e45 : (E.1 c).1 = 45
  · rw [if_pos e45] at hz
    by_cases o12 : o = 12
    · rw [if_pos o12] at hz; cases hz
    rw [if_neg o12] at hz
    cases ha : prE E.1 (N + 1) w 3 (o + 1) (c + 1) kq with
    | inl x => rw [ha] at hz; cases hz
    | inr x => rw [ha] at hz; cases hz; cases h2
  · rw [if_neg e45] at hz pre
    have G := h15 c kq cs s j z hc C f hz h61 h2 hK hA hb
    rw [xV_75] at pre
    rcases G with ⟨s2, t2, a, b, l2, g1, g2⟩ | ⟨s2, vv, g1, g2⟩
    · rw [g1, bI_s] at pre
      exact Or.inl ⟨s2, t2, a, b, l2, pre, g2⟩
    · rw [g1, bI_s] at pre
      exact Or.inr ⟨s2, vv, pre, g2⟩
theorem L13_x (hT : TH E.1 N s) (f : fne s c) (hc : c ≤ N) (h : (E.1 c).1 = 61) (a b : Int32) : L_13_7 (mjF (d + 2)) (n + 1) 75 a b (mjW0 s) = some (some (.int a), mjW0 s) := by
  rw [L13_S]
  unfold b_13_7 b_13_65
  rw [xg_75_0, xV_58, sz0 hT f.1 hc, bI_s, xg_75_0, xV_58, x_product (tk_f hT f hc), bI_s, (hT.2.2.2 c hc).1, h, i01, if_neg (show ¬ ((61 : Int32) = 42 ∨ (61 : Int32) = 47 ∨ (61 : Int32) = 37) by decide), ite_self]
theorem L12_x (hT : TH E.1 N s) (f : fne s c) (hc : c ≤ N) (h : (E.1 c).1 = 61) (a b : Int32) : L_12_7 (mjF (d + 2)) (n + 1) 75 a b (mjW0 s) = some (some (.int a), mjW0 s) := by
  rw [L12_S]
  unfold b_12_7 b_12_65
  rw [xg_75_0, xV_58, sz0 hT f.1 hc, bI_s, xg_75_0, xV_58, x_sum (tk_f hT f hc), bI_s, (hT.2.2.2 c hc).1, h, i01, if_neg (show ¬ ((61 : Int32) = 43 ∨ (61 : Int32) = 45) by decide), ite_self]
theorem x_13L (h14 : hL E N q (d + 3) 14 (prE E.1 (N + 1) w 3 o)) : hL E N q (d + 4) 13 (prE E.1 (N + 1) (w + 1) 2 o) := by
  intro c kq cs s j z hc C f hz h61 h2 hK hA hb
  have pre : mjF (d + 4) 13 [.ref 75] (mjW0 s) = _ := e_13 (d := d + 3)
  unfold f_13 b_13_0 at pre
  rw [xV_75] at pre
  rw [prE_2] at hz
  cases ha : prE E.1 (N + 1) w 3 o c kq with
  | inl x => rw [ha] at hz; cases hz
  | inr x =>
    rw [ha] at hz
    rcases pLoop_s0 _ _ _ hz with e | e
    · subst e
      have G := h14 c kq cs s j z hc C f ha h61 h2 hK hA hb
      rcases G with ⟨s2, t2, a, b, l2, g1, g2⟩ | ⟨s2, vv, g1, gv, gj, gb, go⟩
      · rw [g1, bI_s, show mjN = 99999999 + 1 from rfl, L13_x (d := d + 1) (C.goU g2.2.2.2.2.2.2.1 g2.2.2.2.1).TH g2.2.2.1 g2.2.2.2.2.2.2.2.2.1 h61] at pre
        exact Or.inl ⟨s2, t2, a, b, l2, pre, g2⟩
      · rw [g1, bI_s, show mjN = 99999999 + 1 from rfl, n_13l (d := d + 1) gb] at pre
        exact Or.inr ⟨s2, vv, pre, gv, gj, gb, go⟩
    · rw [h2] at e; cases e
theorem x_12L (h13 : hL E N q (d + 3) 13 (prE E.1 (N + 1) w 2 o)) : hL E N q (d + 4) 12 (prE E.1 (N + 1) (w + 1) 1 o) := by
  intro c kq cs s j z hc C f hz h61 h2 hK hA hb
  have pre : mjF (d + 4) 12 [.ref 75] (mjW0 s) = _ := e_12 (d := d + 3)
  unfold f_12 b_12_0 at pre
  rw [xV_75] at pre
  rw [prE_1] at hz
  cases ha : prE E.1 (N + 1) w 2 o c kq with
  | inl x => rw [ha] at hz; cases hz
  | inr x =>
    rw [ha] at hz
    rcases pLoop_s0 _ _ _ hz with e | e
    · subst e
      have G := h13 c kq cs s j z hc C f ha h61 h2 hK hA hb
      rcases G with ⟨s2, t2, a, b, l2, g1, g2⟩ | ⟨s2, vv, g1, gv, gj, gb, go⟩
      · rw [g1, bI_s, show mjN = 99999999 + 1 from rfl, L12_x (d := d + 1) (C.goU g2.2.2.2.2.2.2.1 g2.2.2.2.1).TH g2.2.2.1 g2.2.2.2.2.2.2.2.2.1 h61] at pre
        exact Or.inl ⟨s2, t2, a, b, l2, pre, g2⟩
      · rw [g1, bI_s, show mjN = 99999999 + 1 from rfl, n_12l (d := d + 1) gb] at pre
        exact Or.inr ⟨s2, vv, pre, gv, gj, gb, go⟩
    · rw [h2] at e; cases e
theorem x_11L (h12 : hL E N q (d + 3) 12 (prE E.1 (N + 1) w 1 o)) : hL E N q (d + 4) 11 (prE E.1 (N + 1) (w + 1) 0 o) := by
  intro c kq cs s j z hc C f hz h61 h2 hK hA hb
  have pre : mjF (d + 4) 11 [.ref 75] (mjW0 s) = _ := e_11 (d := d + 3)
  unfold f_11 b_11_0 at pre
  rw [xV_75] at pre
  rw [prE_0] at hz
  cases ha : prE E.1 (N + 1) w 1 o c kq with
  | inl x => rw [ha] at hz; cases hz
  | inr x =>
    rw [ha] at hz
    dsimp only at hz
    by_cases g : isCmp (E.1 x.1).1 = true
    · rw [if_pos g] at hz
      cases hd : prE E.1 (N + 1) w 1 o (x.1 + 1) (kq + x.2.2.1.length) with
      | inl y => rw [hd] at hz; cases hz
      | inr y => rw [hd] at hz; cases hz; cases h2
    · rw [if_neg g] at hz
      cases hz
      have G := h12 c kq cs s j z hc C f ha h61 h2 hK hA hb
      rcases G with ⟨s2, t2, a, b, l2, g1, g2⟩ | ⟨s2, vv, g1, gv, gj, gb, go⟩
      · have hT := (C.goU g2.2.2.2.2.2.2.1 g2.2.2.2.1).TH
        have gN := g2.2.2.2.2.2.2.2.2.1
        rw [g1, bI_s, xg_75_0, xV_58, x_compare (tk_f hT g2.2.2.1 gN), bI_s, (hT.2.2.2 z.1 gN).1, h61, i01, if_neg (by decide)] at pre
        exact Or.inl ⟨s2, t2, a, b, l2, pre, g2⟩
      · have hT := gb.1.1.1.1
        have k60 : s2.1 60 N = 0 := by rw [(hT.2.2.2 N (Nat.le_refl N)).1, hT.2.2.1]
        rw [g1, bI_s, xg_75_0, xV_58, x_compare (tk_b hT gb.2.1), bI_s, k60, i01, if_neg (by decide)] at pre
        exact Or.inr ⟨s2, vv, pre, gv, gj, gb, go⟩
/-- E, at any depth that suffices -/
theorem hV (ho : o ≤ 12) (hD : 96 ≤ D) : hE E N q D 11 (prV E.1 (N + 1) o) P3 := by
  have hd : dpE o ≤ 92 := by unfold dpE; omega
  have := (hS_all (E := E) (N := N) (q := q) 100 100 (Nat.le_refl _) o ho (D - 4 - dpE o)).1
  rw [show dpE o + (D - 4 - dpE o) + 4 = D by omega] at this
  exact this
theorem hLV (ho : o ≤ 12) (hD : 96 ≤ D) : hL E N q D 11 (prV E.1 (N + 1) o) := by
  have hd : dpE o ≤ 92 := by unfold dpE; omega
  obtain ⟨b, rfl⟩ : ∃ b, D = b + 12 := ⟨D - 12, by omega⟩
  refine x_11L (d := b + 8) (w := 99) (x_12L (d := b + 7) (w := 98) (x_13L (d := b + 6) (w := 97) (x_14L (d := b + 6) (w := 96) (x_15L (d := b) (w := 94) (fun o12 => ?_) (fun o12 => ?_)))))
  · have h1 : dpE o = dpE (o + 1) + 7 := by unfold dpE; omega
    have := (hS_all (E := E) (N := N) (q := q) 94 94 (Nat.le_refl _) (o + 1) (by omega) (b + 1 - dpE (o + 1))).1
    rw [show dpE (o + 1) + (b + 1 - dpE (o + 1)) + 4 = b + 5 by omega] at this
    exact this
  · have h1 : dpE o = dpE (o + 1) + 7 := by unfold dpE; omega
    have := (hS_all (E := E) (N := N) (q := q) 94 94 (Nat.le_refl _) (o + 1) (by omega) (b + 2 - dpE (o + 1))).1
    rw [show dpE (o + 1) + (b + 2 - dpE (o + 1)) + 4 = b + 6 by omega] at this
    exact this
/-- codeFitting: from the word (or the =) to behind the ; -/
theorem x_32 (ho : o ≤ 12) (hD : 96 ≤ D) (hc : c < N) (C : CE E N q s j cs) (f : fne s c) (hz : prV E.1 (N + 1) o (c + 1) kq = .inr z) (h59 : (E.1 z.1).1 = 59) (hK : KT E.2.2.2.1 kq z.2.2.1) (hA : AG s z.2.2.2.2) (hb : cs + (z.1 - (c + 1)) ≤ 3090) (hw : vT E.2.1 w) : (∃ s' t al l, mjF (D + 1) 32 [.ref 75, .int (tyI w)] (mjW0 s) = some (none, mjW0 s') ∧ atC E N q s (c + 2) cs j z.2.2.2.1 s' (z.1 + 1) t al l ∧ fitT E.1 E.2.1 t w = true ∧ z.1 + 1 ≤ N) ∨ (∃ s', mjF (D + 1) 32 [.ref 75, .int (tyI w)] (mjW0 s) = some (none, mjW0 s') ∧ (∀ t al l, jrun E z.2.2.2.1 j = some (jE j t al, l) → ¬ fitT E.1 E.2.1 t w = true) ∧ (jrun E z.2.2.2.1 j = none ∨ ∃ t al l, jrun E z.2.2.2.1 j = some (jE j t al, l)) ∧ BC E.1 N q E.2.1 E.2.2.1 s' ∧ oC q s s') := by
  have hT := C.TH
  have h0 := hT.2.2.1
  have hq' : q = 2 ∨ q = 30 := C.pq
  obtain ⟨D', rfl⟩ : ∃ D', D = D' + 3 := ⟨D - 3, by omega⟩
  have pre : mjF (D' + 3 + 1) 32 [.ref 75, .int (tyI w)] (mjW0 s) = _ := e_32 (d := D' + 3)
  have xg : o58 s (tkGo s (c + 1)) := o58.go _ _
  have C1 : CE E N q (tkGo s (c + 1)) j cs := C.go xg.oe (by rw [xg.r (by omega)]; exact C.2.2.2.2)
  unfold f_32 b_32_0 b_32_40 at pre
  rw [xg_75_0, xV_58, j_now hT f.1 (by omega), bI_s, xg_75_0, xV_58, j_skip hT f hc, bN_s, xg_75_3, C1.1.2.2.2.2.2.1, xV_75] at pre
  have G := hV (E := E) (q := q) ho hD (c + 1) kq cs (tkGo s (c + 1)) j z (by omega) C1 (f.go _) hz (by rw [h59]; decide) hK (hA.oE C.pq xg.oe) hb
  rcases G with ⟨s1, t, al, l, g1, A, gN, _⟩ | ⟨s1, vv, g1, gv, g2, g3, g4⟩
  · have C2 := C1.go A.2.2.2.2.2.2.1 A.2.2.2.1
    have zN := lt_z h0 gN h59 (by decide)
    rw [g1, bI_s, yV C.pq, x_123 C2.1 A.2.1 hw, bI_s, b2_i] at pre
    by_cases ft : fitT E.1 E.2.1 t w = true
    · rw [if_pos ft, xg_75_0, xV_58, j_skip C2.TH A.2.2.1 zN, bN_s] at pre
      have xg2 : o58 s1 (tkGo s1 (z.1 + 1)) := o58.go _ _
      have A2 := A.t58 C.pq xg2 (A.2.2.1.go _) (show z.1 ≤ z.1 + 1 by omega)
      obtain ⟨a1, a2, a3, a4, a5, a6, a7, a8⟩ := A2
      have a9 := A.2.2.2.2.2.2.2
      exact Or.inl ⟨_, t, al, l, pre, ⟨a1, a2, a3, a4, a5, CP.trn (CP.o58 C.pq xg) a6, xg.oe.tr a7, by omega⟩, ft, by omega⟩
    · rw [if_neg ft, xg_75_0, xV_58] at pre
      obtain ⟨y, y1, y2, y3⟩ := j_at (d := D' + 2) (k := 7) (t := c) C2.TH A.2.2.1 gN (by omega) (by decide)
      have a9 := A.2.2.2.2.2.2.2
      have B := C2.bad (by omega) y3 y2
      rw [y1, bN_s, xg_75_0, xV_58, B.skp, bN_s] at pre
      refine Or.inr ⟨y, pre, fun t' al' l' h => ?_, Or.inr ⟨t, al, l, A.1⟩, B, xg.C.tr (A.2.2.2.2.2.2.1.C.tr y3.C)⟩
      rw [A.1] at h
      cases h
      exact ft
  · obtain ⟨b, hb'⟩ := x_123B (d := D') (w := w) g3 gv hw
    rw [g1, bI_s, yV C.pq, hb', bI_s, xg_75_0, xV_58, j_atB g3.1.1.1.1 g3.2.1, bN_s, xg_75_0, xV_58, g3.skp, bN_s, ite_self] at pre
    refine Or.inr ⟨s1, pre, fun t' al' l' h => ?_, Or.inl g2, g3, xg.C.tr g4⟩
    rw [g2] at h
    cases h
end MJA37
end
section
/-! ===== the Coder: STATEMENTS ===== -/
def oSt (q : Nat) : mjSt3 → mjSt3 → Prop := offG (fun h j => c58 h j ∨ (h = 75 ∧ 11 ≤ j ∧ j ≤ 16) ∨ h = 77 ∨ h = 78 ∨ (h = q + 24 ∧ j = 3) ∨ (q + 25 ≤ h ∧ h ≤ q + 27)) (fun h _ => h = 76)
/-- where the orders' code stands -/
def PS (E : EV) (i0 cs : Nat) (os : List Row) (j : JS) : Prop := ∀ (a b : List Row) (j1 : JS) (l1 : List Ins), os = a ++ b → jrun E a j = some (j1, l1) → E.2.2.2.2.2.2 (i0 + a.length) = cs + l1.length
/-- what STATEMENTS leave: what waits; VARIABLES of this BLOCK may be more -/
def JK (j j' : JS) : Prop := j'.1 = j.1 ∧ j'.2.1 = j.2.1 ∧ (∃ nw, j'.2.2.1 = j.2.2.1 ++ nw ∧ ∀ e, e ∈ nw → e.2.2.2 = j.2.2.2.2.1) ∧ j'.2.2.2.2.1 = j.2.2.2.2.1 ∧ jRS j' = jRS j
def VD (j : JS) : Prop := ∀ e, e ∈ j.2.2.1 → e.2.2.2 ≤ j.2.2.2.2.1
def RT (E : EV) (s : mjSt3) : Prop := s.1 75 7 = tyI E.2.2.2.2.2.1 ∧ vT E.2.1 E.2.2.2.2.2.1
def atS (E : EV) (N q : Nat) (s0 : mjSt3) (c0 cs : Nat) (j0 : JS) (os : List Row) (s : mjSt3) (c : Nat) (j : JS) (l : List Ins) : Prop := jrun E os j0 = some (j, l) ∧ CE E N q s j (cs + l.length) ∧ fne s c ∧ CL q s cs l ∧ CP q cs s0 s ∧ oSt q s0 s ∧ l.length + c0 ≤ c ∧ c ≤ N ∧ JK j0 j
def gSm (E : EV) (N q : Nat) (s0 : mjSt3) (c0 cs : Nat) (j0 : JS) (os : List Row) (u : mjU) (c' td : Nat) : Prop := (∃ s j l, u = some (none, mjW0 s) ∧ atS E N q s0 c0 cs j0 os s c' j l ∧ j.2.2.2.1 = td) ∨ (∃ s, u = some (none, mjW0 s) ∧ bdC E N q s0 j0 os s)
def hSt (E : EV) (N q D me x : Nat) (rd : Nat → Nat → Nat → Nat → PY) : Prop := ∀ (c kq i0 cs : Nat) (s : mjSt3) (j : JS) (z : PB), c ≤ N → CE E N q s j cs → RT E s → VD j → fne s c → rd c j.2.2.2.1 kq i0 = .inr z → KT E.2.2.2.1 kq z.2.2.1 → AG s z.2.2.2.2 → PS E i0 cs z.2.2.2.1 j → cs + (z.1 - c) ≤ 3090 → i0 + z.2.2.2.1.length ≤ 100000 → kq + z.2.2.1.length ≤ 100000 → gSm E N q s (c + x) cs j z.2.2.2.1 (mjF D me [.ref 75] (mjW0 s)) z.1 z.2.1
section MJA38
variable {E : EV} {d N q c t n e k u v i m o w cs c0 kq nt D me i0 td : Nat} {s s1 s' s0 : mjSt3} {j j0 j' : JS} {y z : PZ} {os : List Row} {l : List Ins} {al : Bool}
theorem oSt.C (x : oSt q s s') : oC q s s' := offG.mono x (fun a b h => by
  rcases h with h | h | h | h | h | h
  · exact Or.inl h
  · exact Or.inr (Or.inl ⟨h.1, by omega, by omega⟩)
  · exact Or.inr (Or.inr (Or.inl h))
  · exact Or.inr (Or.inr (Or.inr (Or.inl h)))
  · exact Or.inr (Or.inr (Or.inr (Or.inr (Or.inl h))))
  · exact Or.inr (Or.inr (Or.inr (Or.inr (Or.inr (Or.inl h)))))) (fun _ _ h => h)
theorem oU.S (x : oU q s s') : oSt q s s' := offG.mono x (fun a b h => by
  rcases h with h | h | h | h
  · exact Or.inl h
  · exact Or.inr (Or.inr (Or.inr (Or.inr (Or.inl h))))
  · exact Or.inr (Or.inr (Or.inr (Or.inr (Or.inr h))))
  · exact Or.inr (Or.inl ⟨h.1, by omega, by omega⟩)) (fun _ _ h => h.elim)
theorem oE.S (x : oE q s s') : oSt q s s' := x.U.S
theorem o58.S (x : o58 s s') : oSt q s s' := x.oe.S
theorem oSt.rr (x : oSt q s s') {h : Nat} (hh : ¬ (h = 58 ∨ h = 75 ∨ h = 77 ∨ h = 78 ∨ (q + 24 ≤ h ∧ h ≤ q + 27))) : s'.1 h = s.1 h := funext fun j => x.1 h j (by unfold c58; omega)
theorem oSt.ff (hq : isP q) (x : oSt q s s') {j : Nat} (hh : ¬ (11 ≤ j ∧ j ≤ 16)) : s'.1 75 j = s.1 75 j := x.1 75 j (by
  have hq : q = 2 ∨ q = 30 := hq
  unfold c58; omega)
theorem RT.oSt (R : RT E s) (hq : isP q) (x : oSt q s s') : RT E s' := ⟨by rw [x.ff hq (by omega)]; exact R.1, R.2⟩
theorem AG.oSt {l : List (Nat × Nat)} (A : AG s l) (hq : isP q) (x : oSt q s s') : AG s' l := by
  have hq' : q = 2 ∨ q = 30 := hq
  unfold AG; rw [x.rr (by omega)]; exact A
theorem PS.sub {a b : List Row} {l1 : List Ins} {j1 : JS} (P : PS E i0 cs (a ++ b) j) (h : jrun E a j = some (j1, l1)) : PS E (i0 + a.length) (cs + l1.length) b j1 := by
  intro a' b' j2 l2 e h2
  have := P (a ++ a') b' j2 (l1 ++ l2) (by rw [e, List.append_assoc]) (by rw [jrun_app, h]; dsimp only; rw [h2])
  rw [List.length_append, List.length_append] at this
  rw [Nat.add_assoc, this, Nat.add_assoc]
theorem PS.prf {a b : List Row} (P : PS E i0 cs (a ++ b) j) : PS E i0 cs a j := by
  intro a' b' j2 l2 e h2
  exact P a' (b' ++ b) j2 l2 (by rw [e, List.append_assoc]) h2
theorem JK.rf : JK j j := ⟨rfl, rfl, ⟨[], (List.append_nil _).symm, fun e h => by cases h⟩, rfl, rfl⟩
theorem JK.trn {a b c : JS} (h : JK a b) (g : JK b c) : JK a c := by
  obtain ⟨h1, h2, ⟨n1, h3, h4⟩, h5, h6⟩ := h
  obtain ⟨g1, g2, ⟨n2, g3, g4⟩, g5, g6⟩ := g
  refine ⟨g1.trans h1, g2.trans h2, ⟨n1 ++ n2, by rw [g3, h3, List.append_assoc], fun e he => ?_⟩, g5.trans h5, g6.trans h6⟩
  rcases List.mem_append.mp he with x | x
  · exact h4 e x
  · rw [g4 e x, h5]
theorem VD.jk (h : VD j) (g : JK j j') : VD j' := by
  intro e he
  obtain ⟨_, _, ⟨nw, g3, g4⟩, g5, _⟩ := g
  rw [g3] at he
  rw [g5]
  rcases List.mem_append.mp he with x | x
  · exact h e x
  · rw [g4 e x]; exact Nat.le_refl _
theorem jE_back : jst (jE j t al) j.1 ((jRS (jE j t al)).drop 1) = j := rfl
theorem CE.same (C : CE E N q s j cs) (h1 : j'.2.2.1 = j.2.2.1) (h2 : j'.2.2.2.1 = j.2.2.2.1) : CE E N q s j' cs := by
  obtain ⟨a, b, c, e, f⟩ := C
  exact ⟨a, b, c, by rw [h1, h2]; exact e, f⟩
/-- the E's value goes into one order of one instruction -/
theorem put_S {r : Row} {a b p : Int32} (C : CE E N q s0 j0 cs) (A : atC E N q s0 c0 cs j0 os s c t al l) (hr : jrow E r (jE j0 t al) = some (j', [(a, b, p)])) (h1 : j'.2.2.1 = j0.2.2.1) (h2 : j'.2.2.2.1 = j0.2.2.2.1) (hj : JK j0 j') (hl : l.length + c0 < c) (hcN : c ≤ N) (hn : cs + l.length < 3100) : ∃ s', mjF (d + 1) 1 [.ref (q + 24), .int a, .int b, .int p] (mjW0 s) = some (some (.int (nI (cs + l.length))), mjW0 s') ∧ atS E N q s0 c0 cs j0 (os ++ [r]) s' c j' (l ++ [(a, b, p)]) ∧ oE q s s' := by
  obtain ⟨A1, A2, A3, A4, A5, A6, A7, A8⟩ := A
  obtain ⟨s', b1, b2', b3, b4, b5, b6⟩ := put1 (d := d) (C.go A7 A4) hn a b p
  have sz : s'.1 (q + 24) 3 = nI (cs + (l ++ [(a, b, p)]).length) := by rw [b4, List.length_append, List.length_singleton, Nat.add_assoc]
  refine ⟨s', b1, ⟨?_, (C.go (A7.tr b2') sz).same h1 h2, ⟨by rw [b3]; exact A3.1, by rw [b3]; exact A3.2⟩, (A5.keep b6).app b5, CP.trn A6 (b6.mono (by omega)), oE.S (A7.tr b2'), ?_, hcN, hj⟩, b2'⟩
  · rw [jrun_app, A1]
    dsimp only
    rw [jrun_1, hr]
  · rw [List.length_append, List.length_singleton]; omega
/-- one order of one instruction, ahead of the rest -/
theorem gSm.one {r : Row} {os' : List Row} {a b p : Int32} {U : mjU} {c' : Nat} (C : CE E N q s j cs) (hr : jrow E r j = some (j, [(a, b, p)])) (x : oE q s s1) (hl : CL q s1 cs [(a, b, p)]) (hp : CP q cs s s1) (G : gSm E N q s1 (c + 1) (cs + 1) j os' U c' td) : gSm E N q s c cs j (r :: os') U c' td := by
  have jr : jrun E (r :: os') j = match jrun E os' j with
      | none => none
      | some (j2, c2) => some (j2, [(a, b, p)] ++ c2) := by
    show (match jrow E r j with
      | none => none
      | some (j1, c1) => match jrun E os' j1 with
        | none => none
        | some (j2, c2) => some (j2, c1 ++ c2)) = _
    rw [hr]
  rcases G with ⟨s', j', l, g1, ⟨g2, g3, g4, g5, g6, g7, g8, g9, g10⟩, g11⟩ | ⟨s', g1, g2, g3, g4⟩
  · refine Or.inl ⟨s', j', [(a, b, p)] ++ l, g1, ⟨?_, ?_, g4, ?_, CP.trn hp (g6.mono (by omega)), x.S.tr g7, ?_, g9, g10⟩, g11⟩
    · rw [jr, g2]
    · have : ([((a, b, p) : Ins)] ++ l).length = 1 + l.length := by rw [List.length_append, List.length_singleton]
      rw [this, ← Nat.add_assoc]; exact g3
    · exact (hl.keep (show CP q (cs + [((a, b, p) : Ins)].length) s1 s' from g6)).app g5
    · rw [List.length_append, List.length_singleton]; omega
  · refine Or.inr ⟨s', g1, ?_, g3, x.C.tr g4⟩
    rw [jr, g2]
theorem fit_int {T : TT} {L : List CD} : fitT T L t 0 = true ↔ t = 0 := by
  match t with
  | 0 => exact ⟨fun _ => rfl, fun _ => rfl⟩
  | 1 => exact ⟨fun h => (by cases h), fun h => (by cases h)⟩
  | k + 2 =>
    refine ⟨fun h => ?_, fun h => by omega⟩
    have : decide (k + 2 = 0) = true := h
    simp at this
theorem give_row (x a b : Int32) (nm : Int64) : jrow E (28, x, a, b, nm) (jE j t al) = if fitT E.1 E.2.1 t E.2.2.2.2.2.1 = true then some (j, [(9, 0, -1)]) else none := rfl
theorem say_row (x a b : Int32) (nm : Int64) : jrow E (24, x, a, b, nm) (jE j t al) = if t = 0 then some (j, [(8, 0, -1)]) else none := rfl
/-- word E ; : the E fits, then one instruction -/
theorem giveC {r : Row} {op : Int32} (ho : o ≤ 12) (hD : 96 ≤ D) (hc : c < N) (C : CE E N q s j cs) (f : fne s c) (hz : prV E.1 (N + 1) o (c + 1) kq = .inr z) (h59 : (E.1 z.1).1 = 59) (hK : KT E.2.2.2.1 kq z.2.2.1) (hA : AG s z.2.2.2.2) (hb : cs + (z.1 + 1 - c) ≤ 3091) (hw : vT E.2.1 w) (hr : ∀ t al, (fitT E.1 E.2.1 t w = true → jrow E r (jE j t al) = some (j, [(op, 0, -1)])) ∧ (¬ fitT E.1 E.2.1 t w = true → jrow E r (jE j t al) = none)) : ∃ s1, mjF (D + 1) 32 [.ref 75, .int (tyI w)] (mjW0 s) = some (none, mjW0 s1) ∧ s1.2.2 75 5 = q + 24 ∧ ∃ s2 v, mjF (D + 1) 1 [.ref (q + 24), .int op, .int 0, .int (-1)] (mjW0 s1) = some (some (.int v), mjW0 s2) ∧ gSm E N q s (c + 1) cs j (z.2.2.2.1 ++ [r]) (some (none, mjW0 s2)) (z.1 + 1) j.2.2.2.1 := by
  have zc := (prE_len (T := E.1) (M := N + 1) 100 0 o (c + 1) kq z (by omega) hz).1
  rcases x_32 ho hD hc C f hz h59 hK hA (by omega) hw with ⟨s1, t, al, l, g1, A, ft, gN⟩ | ⟨s1, g1, g2, g3, g4, g5⟩
  · have A8 := A.2.2.2.2.2.2.2
    have C1 := C.go A.2.2.2.2.2.2.1 A.2.2.2.1
    have A' : atC E N q s (c + 1) cs j z.2.2.2.1 s1 (z.1 + 1) t al l := ⟨A.1, A.2.1, A.2.2.1, A.2.2.2.1, A.2.2.2.2.1, A.2.2.2.2.2.1, A.2.2.2.2.2.2.1, by omega⟩
    obtain ⟨s2, w1, w2, w3⟩ := put_S (d := D) C A' ((hr t al).1 ft) rfl rfl JK.rf (by omega) gN (by omega)
    refine ⟨s1, g1, C1.1.2.2.2.2.2.2.2, s2, _, w1, Or.inl ⟨s2, j, _, rfl, w2, rfl⟩⟩
  · obtain ⟨s2, n', w1, w2, w3, w4, w5⟩ := n_emit (d := D) g4 op 0 (-1)
    refine ⟨s1, g1, g4.1.2.2.2.2.2.2.2, s2, _, w1, Or.inr ⟨s2, rfl, ?_, w3, g5.tr w4⟩⟩
    rw [jrun_app]
    rcases g3 with h | ⟨t, al, l, h⟩
    · rw [h]
    · rw [h]
      dsimp only
      rw [jrun_1, (hr t al).2 (g2 t al l h)]
end MJA38
end
section
/-! ===== the Coder: TYPE NAME = E ; ===== -/
section MJA39
variable {E : EV} {d N q c t n e k u v i m o w cs c0 c1 kq nt D me i0 td ty : Nat} {s s1 s' s0 : mjSt3} {j j0 j' : JS} {y z : PZ} {os : List Row} {l : List Ins} {al : Bool} {T : TT} {L : List CD} {vs : List VE}
theorem vl_g (f : Nat → Int64) (a : Nat) (x : Int64) (b : Nat) : vp_updL f a x b = if b = a then x else f b := rfl
theorem ty_E (hkq : kq < 2 ^ 31) (hk : ¬ (E.1 c).1 = 10 → E.2.2.2.1 (nI kq) = c) : (tyOK E.1 E.2.1 E.2.2.1 E.2.2.2.2.1 c → tyE E (if (E.1 c).1 = 10 then -1 else nI kq) = some (tyT E.1 E.2.1 E.2.2.2.2.1 c)) ∧ (¬ tyOK E.1 E.2.1 E.2.2.1 E.2.2.2.2.1 c → tyE E (if (E.1 c).1 = 10 then -1 else nI kq) = none) := by
  unfold tyE tyT
  by_cases e : (E.1 c).1 = 10
  · rw [if_pos e, if_pos rfl, if_pos e]
    exact ⟨fun _ => rfl, fun h => absurd (fun g => absurd e g) h⟩
  · rw [if_neg e, if_neg (nI_m1 (by omega)), if_neg e]
    unfold kdE
    rw [hk e]
    constructor
    · intro h
      obtain ⟨k, h1, h2⟩ := h e
      rw [h1]
      dsimp only
      rw [if_pos h2]
      rfl
    · intro h
      cases hd : kdT E.1 E.2.1 E.2.2.2.2.1 false c with
      | none => rfl
      | some k =>
        dsimp only
        rw [if_neg (fun g => h (fun _ => ⟨k, hd, g⟩))]
        rfl
/-- know -/
theorem x_6 (V : VSr T N L vs td s) (h16 : td < 16) (hc : c1 ≤ N) (h3 : (T c1).1 = 3) (hv : vT L ty) (dp q : Nat) : ∃ s', mjF (d + 1) 6 [.ref 75, .long (s.2.1 62 c1), .int (tyI ty)] (mjW0 s) = some (none, mjW0 s') ∧ VSr T N L (vs ++ [(kyT T c1, ty, td, dp)]) (td + 1) s' ∧ oSt q s s' ∧ (∀ h, ¬ h = 75 → ¬ h = 77 → ¬ h = 78 → s'.1 h = s.1 h) := by
  obtain ⟨v1, v2, v3, v4, v5⟩ := V
  have pre : mjF (d + 1) 6 [.ref 75, .long (s.2.1 62 c1), .int (tyI ty)] (mjW0 s) = _ := e_6 (d := d)
  unfold f_6 b_6_0 at pre
  rw [xg_75_11, v1, xg_75_8, xN_76, if_neg (show ¬ Int32.ofNat 16 ≤ nI vs.length from nI_ge (b := 16) (by omega) (by decide)), xg_75_8, xg_75_11, v1, ws_76 (by omega)] at pre
  obtain ⟨z1, h1⟩ : ∃ z, z = uL s 76 (vp_updL (s.2.1 76) vs.length (s.2.1 62 c1)) := ⟨_, rfl⟩
  have e1 : z1.1 = s.1 := by rw [h1]; rfl
  rw [← h1, xg_75_9, xg_75_11, e1, v1, ws_77 (by omega)] at pre
  obtain ⟨z2, h2⟩ : ∃ z, z = uI z1 77 (upd (z1.1 77) vs.length (tyI ty)) := ⟨_, rfl⟩
  have e2 : z2.1 75 = s.1 75 := by rw [h2, uI_ne _ _ _ _ (by decide), e1]
  rw [← h2, xg_75_10, xg_75_11, e2, v1, xg_75_12, e2, v2, ws_78 (by omega)] at pre
  obtain ⟨z3, h3'⟩ : ∃ z, z = uI z2 78 (upd (z2.1 78) vs.length (nI td)) := ⟨_, rfl⟩
  have e3 : z3.1 75 = s.1 75 := by rw [h3', uI_ne _ _ _ _ (by decide), e2]
  rw [← h3', xg_75_11, e3, v1, nI_1, xp_75_11] at pre
  obtain ⟨z4, h4⟩ : ∃ z, z = uI z3 75 (upd (z3.1 75) 11 (nI (vs.length + 1))) := ⟨_, rfl⟩
  have e4 : z4.1 75 12 = nI td := by rw [h4, uI_same, upd_g, if_neg (by decide), e3, v2]
  rw [← h4, xg_75_12, e4, nI_1, xp_75_12] at pre
  obtain ⟨z5, h5⟩ : ∃ z, z = uI z4 75 (upd (z4.1 75) 12 (nI (td + 1))) := ⟨_, rfl⟩
  rw [← h5] at pre
  have o1 : oSt q s z1 := by rw [h1]; exact offG.wl rfl
  have o2 : oSt q z1 z2 := by rw [h2]; exact offG.w (Or.inr (Or.inr (Or.inl rfl)))
  have o3 : oSt q z2 z3 := by rw [h3']; exact offG.w (Or.inr (Or.inr (Or.inr (Or.inl rfl))))
  have o4 : oSt q z3 z4 := by rw [h4]; exact offG.w (Or.inr (Or.inl ⟨rfl, by omega, by omega⟩))
  have o5 : oSt q z4 z5 := by rw [h5]; exact offG.w (Or.inr (Or.inl ⟨rfl, by omega, by omega⟩))
  have r77 : z5.1 77 = upd (s.1 77) vs.length (tyI ty) := by rw [h5, uI_ne _ _ _ _ (by decide), h4, uI_ne _ _ _ _ (by decide), h3', uI_ne _ _ _ _ (by decide), h2, uI_same, e1]
  have r78 : z5.1 78 = upd (s.1 78) vs.length (nI td) := by rw [h5, uI_ne _ _ _ _ (by decide), h4, uI_ne _ _ _ _ (by decide), h3', uI_same, h2, uI_ne _ _ _ _ (by decide), e1]
  have rl : z5.2 = z1.2 := by rw [h5, h4, h3', h2]; rfl
  have r76 : z5.2.1 76 = vp_updL (s.2.1 76) vs.length (s.2.1 62 c1) := by rw [rl, h1]; exact uL_same _ _ _
  have r62 : z5.2.1 62 = s.2.1 62 := by rw [rl, h1]; exact uL_ne _ _ _ _ (by decide)
  refine ⟨z5, pre, ⟨?_, ?_, ?_, by omega, fun i e he => ?_⟩, o1.tr (o2.tr (o3.tr (o4.tr o5))), fun x a b c => by rw [h5, uI_ne _ _ _ _ a, h4, uI_ne _ _ _ _ a, h3', uI_ne _ _ _ _ c, h2, uI_ne _ _ _ _ b, e1]⟩
  · rw [h5, uI_same, upd_g, if_neg (by decide), h4, uI_same, upd_g, if_pos rfl, List.length_append, List.length_singleton]
  · rw [h5, uI_same, upd_g, if_pos rfl]
  · rw [List.length_append, List.length_singleton]; omega
  · by_cases g : i < vs.length
    · rw [List.getElem?_append_left g] at he
      obtain ⟨a1, a2, a3, a4, t, a5, a6, a7, a8⟩ := v5 i e he
      rw [r77, r78, r76, r62, upd_g, upd_g, vl_g, if_neg (by omega), if_neg (by omega), if_neg (by omega)]
      exact ⟨a1, a2, a3, by omega, t, a5, a6, a7, a8⟩
    · rw [List.getElem?_append_right (by omega)] at he
      have gi : i = vs.length := by
        have := (List.getElem?_eq_some_iff.mp he).1
        rw [List.length_singleton] at this
        omega
      subst gi
      rw [Nat.sub_self] at he
      cases he
      rw [r77, r78, r76, r62, upd_g, upd_g, vl_g, if_pos rfl, if_pos rfl, if_pos rfl]
      exact ⟨rfl, rfl, hv, by show td < td + 1; omega, c1, hc, h3, rfl, rfl⟩
/-- newNameHere -/
theorem x_33 (hT : TH T N s) (hk : KY T N s) (V : VSr T N L vs td s) (f : fne s c) (hc : c < N) (h3 : (T c).1 = 3) : (vsI vs (kyT T c) = none → mjF (d + 2) 33 [.ref 75] (mjW0 s) = some (some (.long (s.2.1 62 c)), mjW0 (tkGo s (c + 1)))) ∧ (¬ vsI vs (kyT T c) = none → ∃ s', mjF (d + 2) 33 [.ref 75] (mjW0 s) = some (some (.long (s.2.1 62 c)), mjW0 s') ∧ bdd N s' ∧ o58 s s') := by
  have l16 : vs.length ≤ 16 := by have := V.2.2.1; have := V.2.2.2.1; omega
  have pre : mjF (d + 2) 33 [.ref 75] (mjW0 s) = _ := e_33 (d := d + 1)
  unfold f_33 b_33_0 b_33_32 at pre
  rw [xg_75_0, xg_75_0, xV_58, j_now hT f.1 (by omega), bI_s, xV_58, j_key hT f.1 (by omega) (by omega), bL_s, xV_75, x_18 V.1 l16, bI_s, fn_vs hk V (by omega) h3] at pre
  refine ⟨fun hi => ?_, fun hi => ?_⟩
  · rw [hi, oI_n, if_pos rfl, xg_75_0, xV_58, j_skip hT f hc, bN_s] at pre
    exact pre
  · obtain ⟨i, hi'⟩ := Option.ne_none_iff_exists'.mp hi
    have := fnd_lt hi'
    rw [hi', oI_s, if_neg (nI_m1 (by omega)), xg_75_0, xV_58] at pre
    obtain ⟨z, z1, z2, z3⟩ := j_ref (d := d) (k := 4) hT f (by omega) (by decide)
    have hz := hT.o58 z3
    rw [z1, bN_s, xg_75_0, xV_58, j_skipB hz z2, bN_s] at pre
    exact ⟨z, pre, z2, z3⟩
theorem vsKI (nm : Int64) : vsK vs nm = none ↔ vsI vs nm = none := by
  have := vsI_K vs nm
  cases h : vsI vs nm with
  | none => rw [h] at this; exact ⟨fun _ => rfl, fun _ => this⟩
  | some i =>
    rw [h] at this
    have il := fnd_lt h
    dsimp only at this
    rw [List.getElem?_eq_getElem il] at this
    rw [this]
    exact ⟨fun x => (by cases x), fun x => (by cases x)⟩
theorem dc_row (x a b : Int32) (nm : Int64) : jrow E (19, x, a, b, nm) j = match tyE E a with
    | none => none
    | some t => if vsK j.2.2.1 nm = none then some ((j.1, j.2.1, j.2.2.1, j.2.2.2.1, j.2.2.2.2.1, (nm, t), j.2.2.2.2.2.2), []) else none := rfl
theorem st_row (x a b : Int32) (nm : Int64) : jrow E (20, x, a, b, nm) (jE j t al) = if fitT E.1 E.2.1 t j.2.2.2.2.2.1.2 = true then some ((j.1, j.2.1, j.2.2.1 ++ [(j.2.2.2.2.2.1.1, j.2.2.2.2.2.1.2, j.2.2.2.1, j.2.2.2.2.1)], j.2.2.2.1 + 1, j.2.2.2.2.1, j.2.2.2.2.2.1, j.2.2.2.2.2.2.1, jRS j), [(2, nI j.2.2.2.1, -1)]) else none := rfl
/-- codeStatement at a TYPE, behind its LINE -/
theorem declC {z : PB} {rest : List Row} (ho : o ≤ 12) (hD : 96 ≤ D) (hc : c ≤ N) (C : CE E N q s j cs) (f : fne s c) (hz : pDecl E.1 (N + 1) o c j.2.2.2.1 kq = .inr z) (er : z.2.2.2.1 = oLine E.1 c :: rest) (hK : KT E.2.2.2.1 kq z.2.2.1) (hA : AG s z.2.2.2.2) (hb : cs + (z.1 - (c + 1)) ≤ 3090) (hkq : kq < 2 ^ 31) : gSm E N q s (c + 1) cs j rest (b_8_172 (mjF (D + 1)) 75 (mjW0 s)) z.1 z.2.1 := by
  have hT := C.TH
  have h0 := hT.2.2.1
  have hN := hT.2.1
  have hn := C.1.hn
  have hq' : q = 2 ∨ q = 30 := C.pq
  obtain ⟨D', rfl⟩ : ∃ D', D = D' + 3 := ⟨D - 3, by omega⟩
  obtain ⟨U, hU⟩ : ∃ U, U = b_8_172 (mjF (D' + 3 + 1)) 75 (mjW0 s) := ⟨_, rfl⟩
  rw [← hU]
  unfold pDecl at hz
  cases hp : pType E.1 c with
  | inl x => rw [hp] at hz; cases hz
  | inr c1 =>
    rw [hp] at hz
    dsimp only at hz
    obtain ⟨TY, ec⟩ := pType_ok h0 hc hp
    have c1N : c1 ≤ N ∧ c + 1 ≤ c1 := by
      rw [ec]
      unfold teT
      rcases TY with ⟨a, b⟩ | ⟨a, b⟩
      · rw [if_pos a]; omega
      · rw [if_neg a]; have := b.2.2.2.1; omega
    by_cases h3 : (E.1 c1).1 = 3
    · rw [if_pos h3] at hz
      by_cases t16 : j.2.2.2.1 = 16
      · rw [if_pos t16] at hz; cases hz
      rw [if_neg t16] at hz
      by_cases h61 : (E.1 (c1 + 1)).1 = 61
      · rw [if_pos h61] at hz
        cases hv : prV E.1 (N + 1) o (c1 + 2) (kq + (if (E.1 c).1 = 10 then 0 else 1)) with
        | inl x => rw [hv] at hz; cases hz
        | inr y =>
          rw [hv] at hz
          dsimp only at hz
          by_cases h59 : (E.1 y.1).1 = 59
          · rw [if_pos h59] at hz
            cases hz
            cases er
            dsimp only at hK hA hb ⊢
            have yl := (prE_len (T := E.1) (M := N + 1) 100 0 o (c1 + 2) _ y (by omega) hv).1
            have c1N2 := lt_z h0 c1N.1 h3 (by decide)
            have c1N3 := lt_z h0 (show c1 + 1 ≤ N by omega) h61 (by decide)
            have tdl : j.2.2.2.1 < 16 := by have := C.2.2.2.1.2.2.2.1; omega
            have hk1 : ¬ (E.1 c).1 = 10 → E.2.2.2.1 (nI kq) = c := by
              intro g
              rw [if_neg g] at hK
              exact (KT.app hK).1 0 c rfl
            have K2 : KT E.2.2.2.1 (kq + (if (E.1 c).1 = 10 then 0 else 1)) y.2.2.1 := by
              have := (KT.app hK).2
              by_cases g : (E.1 c).1 = 10
              · rw [if_pos g] at this ⊢; exact this
              · rw [if_neg g] at this ⊢; exact this
            obtain ⟨te1, te2⟩ := ty_E (E := E) (c := c) hkq hk1
            have dr := dc_row (E := E) (j := j) (E.1 c1).2.1 (if (E.1 c).1 = 10 then -1 else nI kq) 0 (E.1 c1).2.2.1
            have jr0 : jrow E (19, (E.1 c1).2.1, if (E.1 c).1 = 10 then -1 else nI kq, 0, (E.1 c1).2.2.1) j = none → jrun E ((19, (E.1 c1).2.1, if (E.1 c).1 = 10 then -1 else nI kq, 0, (E.1 c1).2.2.1) :: (y.2.2.2.1 ++ [(20, (E.1 (c1 + 1)).2.1, nI j.2.2.2.1, 0, 0)])) j = none := by
              intro g
              have := jrun_no3 (E := E) (a := []) (b := y.2.2.2.1 ++ [(20, (E.1 (c1 + 1)).2.1, nI j.2.2.2.1, 0, 0)]) (j := j) (j1 := j) (l := []) rfl g
              exact this
            obtain ⟨X1, X2⟩ := x_68 (d := D') C.1.1.1 C.2.2.1 f TY E.2.2.1 C.1.2.2.2.2.1 C.1.1.2.2.2.2.2.2.1 C.1.1.2.2.1
            have tail : ∀ (s1 : mjSt3) (w : Int32) (key : Int64), BC E.1 N q E.2.1 E.2.2.1 s1 → oC q s s1 → jrun E ((19, (E.1 c1).2.1, if (E.1 c).1 = 10 then -1 else nI kq, 0, (E.1 c1).2.2.1) :: (y.2.2.2.1 ++ [(20, (E.1 (c1 + 1)).2.1, nI j.2.2.2.1, 0, 0)])) j = none → U = gR (mjW0 s1) 75 1 5 (fun v8 => gI (mjW0 s1) 75 1 12 (fun v9 => rV (mjW0 s1) v8 0 (bI (mjF (D' + 3 + 1) 1 [.ref v8, .int 2, .int v9, .int (-1)] (mjW0 s1)) (fun v10 hp11 => rV hp11 75 1 (bN (mjF (D' + 3 + 1) 6 [.ref 75, .long key, .int w] hp11) (fun hp12 => some (none, hp12))))))) → gSm E N q s (c + 1) cs j ((19, (E.1 c1).2.1, if (E.1 c).1 = 10 then -1 else nI kq, 0, (E.1 c1).2.2.1) :: (y.2.2.2.1 ++ [(20, (E.1 (c1 + 1)).2.1, nI j.2.2.2.1, 0, 0)])) (U) (y.1 + 1) (j.2.2.2.1 + 1) := by
              intro s1 w key B ob nj pr
              obtain ⟨s2, n', w1, w2, w3, w4, w5⟩ := n_emit (d := D' + 3) B 2 (s1.1 75 12) (-1)
              obtain ⟨s3, r1, r2, r3⟩ := n_6 (d := D' + 3) w3 key w
              rw [xg_75_5, B.1.2.2.2.2.2.2.2, xg_75_12, ycV C.pq, w1, bI_s, xV_75, r1, bN_s] at pr
              exact Or.inr ⟨s3, pr, nj, r2, ob.tr (w4.tr r3)⟩
            have pre := hU
            unfold b_8_172 at pre
            rw [xg_75_2, xg_75_6, C.2.1, xV_71] at pre
            by_cases tok : tyOK E.1 E.2.1 E.2.2.1 E.2.2.2.2.1 c
            · have te := te1 tok
              rw [te] at dr
              dsimp only at dr
              have xg : o58 s (tkGo s (teT E.1 c)) := o58.go _ _
              rw [X1 tok, bI_s, xV_75] at pre
              rw [← ec] at pre xg
              have C1 : CE E N q (tkGo s c1) j cs := C.go xg.oe (by rw [xg.r (by omega)]; exact C.2.2.2.2)
              obtain ⟨Y1, Y2⟩ := x_33 (d := D' + 2) C1.TH C1.KY C1.2.2.2.1 (f.go c1) c1N2 h3
              have tv : vT E.2.1 (tyT E.1 E.2.1 E.2.2.2.2.1 c) := ty_v hn C.2.2.1
              have tl := tv.lt hn
              by_cases nk : vsI j.2.2.1 (kyT E.1 c1) = none
              · rw [if_pos (show vsK j.2.2.1 (E.1 c1).2.2.1 = none from (vsKI _).mpr nk)] at dr
                obtain ⟨jd, hjd⟩ : ∃ jd : JS, jd = (j.1, j.2.1, j.2.2.1, j.2.2.2.1, j.2.2.2.2.1, ((E.1 c1).2.2.1, tyT E.1 E.2.1 E.2.2.2.2.1 c), j.2.2.2.2.2.2) := ⟨_, rfl⟩
                rw [← hjd] at dr
                have xg2 : o58 s (tkGo (tkGo s c1) (c1 + 1)) := xg.tr (o58.go _ _)
                have C2 : CE E N q (tkGo (tkGo s c1) (c1 + 1)) jd cs := (C.go xg2.oe (by rw [xg2.r (by omega)]; exact C.2.2.2.2)).same (by rw [hjd]) (by rw [hjd])
                rw [Y1 nk, bL_s, xV_75] at pre
                have jall : ∀ r2, jrun E ((19, (E.1 c1).2.1, if (E.1 c).1 = 10 then -1 else nI kq, 0, (E.1 c1).2.2.1) :: r2) j = jrun E r2 jd := by
                  intro r2
                  show (match jrow E (19, (E.1 c1).2.1, if (E.1 c).1 = 10 then -1 else nI kq, 0, (E.1 c1).2.2.1) j with
                    | none => none
                    | some (j1, c1) => match jrun E r2 j1 with
                      | none => none
                      | some (j2, c2) => some (j2, c1 ++ c2)) = _
                  rw [dr]
                  dsimp only
                  cases jrun E r2 jd with
                  | none => rfl
                  | some x => rfl
                rcases x_32 (D := D' + 3) ho hD c1N3 C2 ((f.go c1).go (c1 + 1)) hv h59 K2 (hA.oE C.pq xg2.oe) (by omega) tv with ⟨s3, t, al, l, g1, A, ft, gN⟩ | ⟨s3, g1, g2, g3, g4, g5⟩
                · have A8 := A.2.2.2.2.2.2.2
                  have C3 := C2.go A.2.2.2.2.2.2.1 A.2.2.2.1
                  obtain ⟨s4, w1, w2, w3, w4, w5, w6⟩ := put1 (d := D' + 3) C3 (by omega) 2 (nI jd.2.2.2.1) (-1)
                  have C4 := C3.go w2 w4
                  have s62 : s4.2.1 62 = s.2.1 62 := by
                    have := (xg2.oe.tr (A.2.2.2.2.2.2.1.tr w2)).2.1
                    exact funext fun i => this 62 i (fun e => e)
                  have td2 : jd.2.2.2.1 = j.2.2.2.1 := by rw [hjd]
                  obtain ⟨s5, r1, r2, r3, r4⟩ := x_6 (d := D' + 3) (c1 := c1) (ty := tyT E.1 E.2.1 E.2.2.2.2.1 c) C4.2.2.2.1 (by omega) c1N.1 h3 tv j.2.2.2.2.1 q
                  rw [s62] at r1
                  rw [g1, bN_s, xg_75_5, C3.1.2.2.2.2.2.2.2, xg_75_12, C3.2.2.2.1.2.1, ycV C.pq, w1, bI_s, xV_75, show (tkGo s c1).2.1 62 = s.2.1 62 from rfl, r1, bN_s] at pre
                  have fr : oSt q s s5 := (oE.S (xg2.oe.tr (A.2.2.2.2.2.2.1.tr w2))).tr r3
                  have cp5 : CP q (cs + (l ++ [((2, nI jd.2.2.2.1, -1) : Ins)]).length) s4 s5 := fun i _ => by
                    rw [r4 _ (by omega) (by omega) (by omega), r4 _ (by omega) (by omega) (by omega), r4 _ (by omega) (by omega) (by omega)]
                    exact ⟨rfl, rfl, rfl⟩
                  have sr := st_row (E := E) (j := jd) (t := t) (al := al) (E.1 (c1 + 1)).2.1 (nI j.2.2.2.1) 0 0
                  have dcv : jd.2.2.2.2.2.1 = ((E.1 c1).2.2.1, tyT E.1 E.2.1 E.2.2.2.2.1 c) := by rw [hjd]
                  rw [dcv] at sr
                  dsimp only at sr
                  rw [if_pos ft] at sr
                  obtain ⟨jf, hjf⟩ : ∃ jf : JS, jf = (jd.1, jd.2.1, jd.2.2.1 ++ [((E.1 c1).2.2.1, tyT E.1 E.2.1 E.2.2.2.2.1 c, jd.2.2.2.1, jd.2.2.2.2.1)], jd.2.2.2.1 + 1, jd.2.2.2.2.1, ((E.1 c1).2.2.1, tyT E.1 E.2.1 E.2.2.2.2.1 c), jd.2.2.2.2.2.2.1, jRS jd) := ⟨_, rfl⟩
                  rw [← hjf] at sr
                  have sz : s5.1 (q + 24) 3 = nI (cs + (l ++ [((2, nI jd.2.2.2.1, -1) : Ins)]).length) := by
                    rw [r4 _ (by omega) (by omega) (by omega), w4, List.length_append, List.length_singleton, Nat.add_assoc]
                  refine Or.inl ⟨s5, jf, l ++ [(2, nI jd.2.2.2.1, -1)], pre, ⟨?_, ⟨C.1.oC fr.C, by rw [fr.ff C.pq (by omega)]; exact C.2.1, C.2.2.1, ?_, sz⟩, ?_, ?_, ?_, fr, ?_, gN, ?_⟩, ?_⟩
                  · rw [jall, jrun_app, A.1]
                    dsimp only
                    rw [jrun_1, sr]
                  · rw [hjf, hjd]
                    rw [hjd] at r2
                    exact r2
                  · exact ⟨by rw [r4 _ (by omega) (by omega) (by omega), w3]; exact A.2.2.1.1, by rw [r4 _ (by omega) (by omega) (by omega), w3]; exact A.2.2.1.2⟩
                  · exact CL.keep ((A.2.2.2.2.1.keep w6).app w5) cp5
                  · exact CP.trn (CP.o58 C.pq xg2) (CP.trn A.2.2.2.2.2.1 (CP.trn (w6.mono (by omega)) (cp5.mono (by omega))))
                  · rw [List.length_append, List.length_singleton]; omega
                  · rw [hjf, hjd]
                    exact ⟨rfl, rfl, ⟨_, rfl, fun e he => by rw [List.mem_singleton.mp he]⟩, rfl, rfl⟩
                  · rw [hjf, hjd]
                · rw [g1, bN_s] at pre
                  refine tail s3 _ _ g4 (xg2.C.tr g5) ?_ pre
                  rw [jall, jrun_app]
                  rcases g3 with h | ⟨t, al, l, h⟩
                  · rw [h]
                  · rw [h]
                    dsimp only
                    rw [jrun_1, st_row, show jd.2.2.2.2.2.1 = ((E.1 c1).2.2.1, tyT E.1 E.2.1 E.2.2.2.2.1 c) by rw [hjd], if_neg (g2 t al l h)]
              · rw [if_neg (show ¬ vsK j.2.2.1 (E.1 c1).2.2.1 = none from fun x => nk ((vsKI _).mp x))] at dr
                obtain ⟨s2, y1, y2, y3⟩ := Y2 nk
                have B := C1.bad (by omega) y3 y2
                obtain ⟨s3, r1, r2, r3, r4⟩ := n_32 (d := D' + 3 - 7) B (tyI (tyT E.1 E.2.1 E.2.2.2.2.1 c))
                rw [show D' + 3 - 7 + 8 = D' + 3 + 1 by omega] at r1
                rw [y1, bL_s, xV_75, r1, bN_s] at pre
                exact tail s3 _ _ r2 (xg.C.tr (y3.C.tr r3)) (jr0 dr) pre
            · rw [te2 tok] at dr
              obtain ⟨w, s1, y1, y2, y3⟩ := X2 tok
              have B := C.bad (by omega) y3 y2
              obtain ⟨key, k1⟩ := n_33 (d := D' + 2) B
              obtain ⟨s3, r1, r2, r3, r4⟩ := n_32 (d := D' + 3 - 7) B w
              rw [show D' + 3 - 7 + 8 = D' + 3 + 1 by omega] at r1
              rw [y1, bI_s, xV_75, k1, bL_s, xV_75, r1, bN_s] at pre
              exact tail s3 _ _ r2 (y3.C.tr r3) (jr0 dr) pre
          · rw [if_neg h59] at hz; cases hz
      · rw [if_neg h61] at hz; cases hz
    · rw [if_neg h3] at hz; cases hz
end MJA39
end
section
/-! ===== the Coder: E ; and LEFT = E ; ===== -/
theorem pPost_s1 {T : TT} {ra : Nat → Nat → PX} {kq : Nat} : ∀ (k : Nat) (z y : PZ), pPost T ra kq k z = .inr y → y = z ∨ ¬ y.2.1 = 1
  | 0, z, y, h => by cases h; exact Or.inl rfl
  | k + 1, z, y, h => by
    unfold pPost at h
    by_cases g : (T z.1).1 = 20
    · rw [if_pos g] at h
      cases hd : pKind T (z.1 + 1) with
      | inl e => rw [hd] at h; cases h
      | inr c' =>
        rw [hd] at h
        rcases pPost_s1 k _ y h with e | e
        · rw [e]; exact Or.inr (fun x => by cases x)
        · exact Or.inr e
    · rw [if_neg g] at h
      by_cases g2 : (T z.1).1 = 46
      · rw [if_pos g2] at h
        by_cases g3 : (T (z.1 + 1)).1 = 3
        · rw [if_pos g3] at h
          by_cases g4 : (T (z.1 + 2)).1 = 40
          · rw [if_pos g4] at h
            cases hd : ra (z.1 + 2) (kq + z.2.2.1.length) with
            | inl e => rw [hd] at h; cases h
            | inr x =>
              rw [hd] at h
              rcases pPost_s1 k _ y h with e | e
              · rw [e]; exact Or.inr (fun x => by cases x)
              · exact Or.inr e
          · rw [if_neg g4] at h
            rcases pPost_s1 k _ y h with e | e
            · rw [e]; exact Or.inr (fun x => by cases x)
            · exact Or.inr e
        · rw [if_neg g3] at h; cases h
      · rw [if_neg g2] at h
        cases h
        exact Or.inl rfl
/-- an E that is a NAME alone -/
theorem prE_s1 {T : TT} {M : Nat} : ∀ (f tag o c kq : Nat) (y : PZ), tag ≤ 5 → prE T M f tag o c kq = .inr y → y.2.1 = 1 → (T c).1 = 3 ∧ y = (c + 1, 1, [], [(6, (T c).2.1, 0, 0, (T c).2.2.1)], [])
  | 0, _, _, _, _, _, _, h, _ => by cases h
  | f + 1, 0, o, c, kq, y, _, h, h1 => by
    rw [prE_0] at h
    cases hd : prE T M f 1 o c kq with
    | inl e => rw [hd] at h; cases h
    | inr z =>
      rw [hd] at h
      dsimp only at h
      by_cases g : isCmp (T z.1).1 = true
      · rw [if_pos g] at h
        cases hd2 : prE T M f 1 o (z.1 + 1) (kq + z.2.2.1.length) with
        | inl e => rw [hd2] at h; cases h
        | inr x => rw [hd2] at h; cases h; cases h1
      · rw [if_neg g] at h
        cases h
        exact prE_s1 f 1 o c kq y (by omega) hd h1
  | f + 1, 1, o, c, kq, y, _, h, h1 => by
    rw [prE_1] at h
    cases hd : prE T M f 2 o c kq with
    | inl e => rw [hd] at h; cases h
    | inr z =>
      rw [hd] at h
      rcases pLoop_s0 _ _ _ h with e | e
      · subst e; exact prE_s1 f 2 o c kq y (by omega) hd h1
      · rw [h1] at e; cases e
  | f + 1, 2, o, c, kq, y, _, h, h1 => by
    rw [prE_2] at h
    cases hd : prE T M f 3 o c kq with
    | inl e => rw [hd] at h; cases h
    | inr z =>
      rw [hd] at h
      rcases pLoop_s0 _ _ _ h with e | e
      · subst e; exact prE_s1 f 3 o c kq y (by omega) hd h1
      · rw [h1] at e; cases e
  | f + 1, 3, o, c, kq, y, _, h, h1 => by
    rw [prE_3] at h
    by_cases e45 : (T c).1 = 45
    · rw [if_pos e45] at h
      by_cases o12 : o = 12
      · rw [if_pos o12] at h; cases h
      rw [if_neg o12] at h
      cases hd : prE T M f 3 (o + 1) (c + 1) kq with
      | inl e => rw [hd] at h; cases h
      | inr x => rw [hd] at h; cases h; cases h1
    · rw [if_neg e45] at h
      exact prE_s1 f 4 o c kq y (by omega) h h1
  | f + 1, 4, o, c, kq, y, _, h, h1 => by
    rw [prE_4] at h
    cases hd : prE T M f 5 o c kq with
    | inl e => rw [hd] at h; cases h
    | inr z =>
      rw [hd] at h
      rcases pPost_s1 _ _ _ h with e | e
      · subst e; exact prE_s1 f 5 o c kq y (by omega) hd h1
      · exact absurd h1 e
  | f + 1, 5, o, c, kq, y, _, h, h1 => by
    rw [prE_5] at h
    unfold pAtom at h
    by_cases e3 : (T c).1 = 3
    · rw [if_pos e3] at h; cases h; exact ⟨e3, rfl⟩
    rw [if_neg e3] at h
    by_cases e4 : (T c).1 = 4
    · rw [if_pos e4] at h; cases h; cases h1
    rw [if_neg e4] at h
    by_cases e11 : (T c).1 = 11
    · rw [if_pos e11] at h; cases h; cases h1
    rw [if_neg e11] at h
    by_cases e12 : (T c).1 = 12
    · rw [if_pos e12] at h; cases h; cases h1
    rw [if_neg e12] at h
    by_cases e14 : (T c).1 = 14
    · rw [if_pos e14] at h
      cases hp : pKind T (c + 1) with
      | inl x => rw [hp] at h; cases h
      | inr c' => rw [hp] at h; cases h; cases h1
    rw [if_neg e14] at h
    by_cases e40 : (T c).1 = 40
    · rw [if_pos e40] at h
      by_cases o12 : o = 12
      · rw [if_pos o12] at h; cases h
      rw [if_neg o12] at h
      cases hp : prE T M f 0 (o + 1) (c + 1) kq with
      | inl x => rw [hp] at h; cases h
      | inr y =>
        rw [hp] at h
        dsimp only at h
        by_cases g : (T y.1).1 = 41
        · rw [if_pos g] at h; cases h; cases h1
        · rw [if_neg g] at h; cases h
    · rw [if_neg e40] at h; cases h
  | f + 1, t + 6, o, c, kq, y, ht, h, h1 => by omega
/-- NAME = : the E is the NAME alone -/
theorem prE_61 {T : TT} {M : Nat} {c : Nat} (h3 : (T c).1 = 3) (h61 : (T (c + 1)).1 = 61) : ∀ (f tag o kq : Nat) (y : PZ), tag ≤ 5 → prE T M f tag o c kq = .inr y → y.1 = c + 1 ∧ y.2.1 = 1
  | 0, _, _, _, _, _, h => by cases h
  | f + 1, 0, o, kq, y, _, h => by
    rw [prE_0] at h
    cases hd : prE T M f 1 o c kq with
    | inl e => rw [hd] at h; cases h
    | inr z =>
      rw [hd] at h
      dsimp only at h
      have := prE_61 h3 h61 f 1 o kq z (by omega) hd
      rw [if_neg (by rw [this.1, h61]; decide)] at h
      cases h
      exact this
  | f + 1, 1, o, kq, y, _, h => by
    rw [prE_1] at h
    cases hd : prE T M f 2 o c kq with
    | inl e => rw [hd] at h; cases h
    | inr z =>
      rw [hd] at h
      have := prE_61 h3 h61 f 2 o kq z (by omega) hd
      rw [pLoop_end h (by rw [this.1]; exact h61) rfl]
      exact this
  | f + 1, 2, o, kq, y, _, h => by
    rw [prE_2] at h
    cases hd : prE T M f 3 o c kq with
    | inl e => rw [hd] at h; cases h
    | inr z =>
      rw [hd] at h
      have := prE_61 h3 h61 f 3 o kq z (by omega) hd
      rw [pLoop_end h (by rw [this.1]; exact h61) rfl]
      exact this
  | f + 1, 3, o, kq, y, _, h => by
    rw [prE_3, if_neg (by rw [h3]; decide)] at h
    exact prE_61 h3 h61 f 4 o kq y (by omega) h
  | f + 1, 4, o, kq, y, _, h => by
    rw [prE_4] at h
    cases hd : prE T M f 5 o c kq with
    | inl e => rw [hd] at h; cases h
    | inr z =>
      rw [hd] at h
      have := prE_61 h3 h61 f 5 o kq z (by omega) hd
      rw [pPost_end h (by rw [this.1]; exact h61)]
      exact this
  | f + 1, 5, o, kq, y, _, h => by
    rw [prE_5] at h
    unfold pAtom at h
    rw [if_pos h3] at h
    cases h
    exact ⟨rfl, rfl⟩
  | f + 1, t + 6, o, kq, y, ht, h => by omega
section MJA40
variable {E : EV} {d N q c t n e k u v i m o w cs c0 c1 kq nt D me i0 td ty f0 : Nat} {s s1 s2 s' s0 : mjSt3} {j j0 j' jl : JS} {y z : PZ} {os osL : List Row} {l l1 : List Ins} {al : Bool}
theorem BC.aim (B : BC E.1 N q E.2.1 E.2.2.1 s) (hj : ∀ j, ¬ (13 ≤ j ∧ j ≤ 16) → s'.1 75 j = s.1 75 j) (hh : ∀ h, ¬ h = 75 → s'.1 h = s.1 h) (h2 : s'.2 = s.2) : BC E.1 N q E.2.1 E.2.2.1 s' ∧ oC q s s' := by
  have hq : q = 2 ∨ q = 30 := B.1.pq
  have x : oU q s s' := oU.aim hj hh h2
  refine ⟨B.oo x.C ⟨by rw [hh 58 (by decide)]; exact B.2.1.1, by rw [hh 58 (by decide)]; exact B.2.1.2⟩ ?_ ?_, x.C⟩
  · rw [hh _ (by omega)]; exact B.2.2.1
  · rw [hj 11 (by omega)]; exact B.2.2.2
/-- the last instruction of a STATEMENT, in a bad state -/
theorem n_233 (B : BC E.1 N q E.2.1 E.2.2.1 s) : ∃ s', b_8_233 (mjF (d + 1)) 75 (mjW0 s) = some (none, mjW0 s') ∧ BC E.1 N q E.2.1 E.2.2.1 s' ∧ oC q s s' := by
  obtain ⟨y, n', w1, w2, w3, w4, w5⟩ := n_emit (d := d) B (s.1 75 13) (s.1 75 14) (s.1 75 15)
  refine ⟨y, ?_, w3, w4⟩
  unfold b_8_233
  rw [xg_75_5, B.1.2.2.2.2.2.2.2, xg_75_13, xg_75_14, xg_75_15, ycV B.1.pq, w1, bI_s]
theorem n_use (B : BC E.1 N q E.2.1 E.2.2.1 s) (v : Int32) : ∃ s', (if v = 5 then b_8_233 (mjF (d + 8)) 75 (mjW0 s) else gI (mjW0 s) 75 1 16 (fun v22 => rV (mjW0 s) 75 1 (bN (mjF (d + 8) 32 [.ref 75, .int v22] (mjW0 s)) (fun hp23 => b_8_233 (mjF (d + 8)) 75 hp23)))) = some (none, mjW0 s') ∧ BC E.1 N q E.2.1 E.2.2.1 s' ∧ oC q s s' := by
  by_cases g : v = 5
  · rw [if_pos g]
    exact n_233 (d := d + 7) B
  · rw [if_neg g]
    obtain ⟨y, w1, w2, w3, w4⟩ := n_32 (d := d) B (s.1 75 16)
    obtain ⟨z, z1, z2, z3⟩ := n_233 (d := d + 7) w2
    refine ⟨z, ?_, z2, w3.tr z3⟩
    rw [xg_75_16, xV_75, w1, bN_s, z1]
/-- the value right of =, and the last instruction -/
theorem asgC {r : Row} {op p : Int32} (ho : o ≤ 12) (hD : 96 ≤ D) (C : CE E N q s j cs) (C2 : CE E N q s2 jl (cs + l1.length)) (f : fne s2 c1) (hc1 : c1 < N) (hx : oU q s s2) (hL1 : CL q s2 cs l1) (hP1 : CP q cs s s2) (hlen : l1.length + c0 ≤ c1) (jr : jrun E osL j = some (jl, l1)) (h13 : s2.1 75 13 = op) (h14 : s2.1 75 14 = nI f0) (h15 : s2.1 75 15 = p) (h16 : s2.1 75 16 = tyI w) (hw : vT E.2.1 w) (hop : ¬ op = 5) (hv1 : j'.2.2.1 = jl.2.2.1) (hv2 : j'.2.2.2.1 = jl.2.2.2.1) (hjk : JK j j') (hz : prV E.1 (N + 1) o (c1 + 1) kq = .inr z) (h59 : (E.1 z.1).1 = 59) (hK : KT E.2.2.2.1 kq z.2.2.1) (hA : AG s z.2.2.2.2) (hb : cs + (z.1 + 1 - c0) ≤ 3090) (hr : ∀ t al, (fitT E.1 E.2.1 t w = true → jrow E r (jE jl t al) = some (j', [(op, nI f0, p)])) ∧ (¬ fitT E.1 E.2.1 t w = true → jrow E r (jE jl t al) = none)) : gSm E N q s c0 cs j (osL ++ z.2.2.2.1 ++ [r]) (if op = 5 then b_8_233 (mjF (D + 1)) 75 (mjW0 s2) else gI (mjW0 s2) 75 1 16 (fun v22 => rV (mjW0 s2) 75 1 (bN (mjF (D + 1) 32 [.ref 75, .int v22] (mjW0 s2)) (fun hp23 => b_8_233 (mjF (D + 1)) 75 hp23)))) (z.1 + 1) j'.2.2.2.1 := by
  have zc := (prE_len (T := E.1) (M := N + 1) 100 0 o (c1 + 1) kq z (by omega) hz).1
  have hq' : q = 2 ∨ q = 30 := C.pq
  rw [if_neg hop, xg_75_16, h16, xV_75]
  have jall : ∀ b, jrun E (osL ++ z.2.2.2.1 ++ b) j = match jrun E z.2.2.2.1 jl with
      | none => none
      | some (j2, c2) => match jrun E b j2 with
        | none => none
        | some (j3, c3) => some (j3, l1 ++ c2 ++ c3) := by
    intro b
    rw [jrun_app, jrun_app, jr]
    dsimp only
    cases jrun E z.2.2.2.1 jl with
    | none => rfl
    | some x => rfl
  rcases x_32 ho hD hc1 C2 f hz h59 hK (hA.oU C.pq hx) (by omega) hw with ⟨s3, t, al, l, g1, A, ft, gN⟩ | ⟨s3, g1, g2, g3, g4, g5⟩
  · have A8 := A.2.2.2.2.2.2.2
    have C3 := C2.go A.2.2.2.2.2.2.1 A.2.2.2.1
    obtain ⟨s4, w1, w2, w3, w4, w5, w6⟩ := put1 (d := D) C3 (by omega) op (nI f0) p
    have r75 : s3.1 75 = s2.1 75 := A.2.2.2.2.2.2.1.r (by omega)
    have C4 := C3.go w2 w4
    have fr : oSt q s s4 := hx.S.tr (oE.S (A.2.2.2.2.2.2.1.tr w2))
    have ll : (l1 ++ l ++ [((op, nI f0, p) : Ins)]).length = l1.length + l.length + 1 := by rw [List.length_append, List.length_append, List.length_singleton]
    refine Or.inl ⟨s4, j', l1 ++ l ++ [(op, nI f0, p)], ?_, ⟨?_, ?_, ?_, ?_, ?_, fr, ?_, gN, hjk⟩, rfl⟩
    · rw [g1, bN_s]
      unfold b_8_233
      rw [xg_75_5, C3.1.2.2.2.2.2.2.2, xg_75_13, xg_75_14, xg_75_15, r75, h13, h14, h15, ycV C.pq, w1, bI_s]
    · rw [jall, A.1]
      dsimp only
      rw [jrun_1, (hr t al).1 ft]
    · rw [ll, show cs + (l1.length + l.length + 1) = cs + l1.length + l.length + 1 by omega]
      exact C4.same hv1 hv2
    · exact ⟨by rw [w3]; exact A.2.2.1.1, by rw [w3]; exact A.2.2.1.2⟩
    · have c1' := (hL1.keep A.2.2.2.2.2.1).app A.2.2.2.2.1
      have e1 : (l1 ++ l).length = l1.length + l.length := List.length_append
      exact (c1'.keep (by rw [e1, ← Nat.add_assoc]; exact w6)).app (by rw [e1, ← Nat.add_assoc]; exact w5)
    · exact CP.trn hP1 (CP.trn (A.2.2.2.2.2.1.mono (by omega)) (w6.mono (by omega)))
    · rw [ll]; omega
  · obtain ⟨s4, z1, z2, z3⟩ := n_233 (d := D) g4
    refine Or.inr ⟨s4, by rw [g1, bN_s, z1], ?_, z2, hx.C.tr (g5.tr z3)⟩
    rw [jall]
    rcases g3 with h | ⟨t, al, l, h⟩
    · rw [h]
    · rw [h]
      dsimp only
      rw [jrun_1, (hr t al).2 (g2 t al l h)]
theorem lv_row (x a b : Int32) (nm : Int64) : jrow E (15, x, a, b, nm) j = match vsK j.2.2.1 nm with
    | none => none
    | some e => some (jLf j e.2.1 e.2.2.1 (jRS j), []) := rfl
theorem sv_row (x a b : Int32) (nm : Int64) : jrow E (17, x, a, b, nm) (jE (jLf j w f0 (jRS j)) t al) = if fitT E.1 E.2.1 t w = true then some ((j.1, j.2.1, j.2.2.1, j.2.2.2.1, j.2.2.2.2.1, j.2.2.2.2.2.1, f0, jRS j), [(2, nI f0, -1)]) else none := rfl
theorem sf_row (x a b : Int32) (nm : Int64) (t0 : Nat) : jrow E (18, x, a, b, nm) (jE (jLf j w f0 (t0 :: jRS j)) t al) = if fitT E.1 E.2.1 t w = true then some ((j.1, j.2.1, j.2.2.1, j.2.2.2.1, j.2.2.2.2.1, j.2.2.2.2.2.1, f0, jRS j), [(4, nI f0, b)]) else none := rfl
theorem dr_row (x a b : Int32) (nm : Int64) : jrow E (25, x, a, b, nm) (jE j t al) = some (j, [(5, 0, -1)]) := rfl
end MJA40
end
section
/-! ===== the Coder: a STATEMENT that begins with an E ===== -/
section MJA41
variable {E : EV} {d N q c t n e k u v i m o w cs c0 c1 kq nt D me i0 td ty f0 : Nat} {s s1 s2 s' s0 : mjSt3} {j j0 j' jl : JS} {y : PZ} {os osL : List Row} {l l1 : List Ins} {al : Bool}
/-- codeLeft's first half, when it is no NAME = -/
theorem left62 (hT : TH E.1 N s) (f : fne s c) (hc : c ≤ N) (hne : ¬ ((E.1 c).1 = 3 ∧ (E.1 (c + 1)).1 = 61)) : mjF (d + 2) 34 [.ref 75] (mjW0 s) = b_34_62 (mjF (d + 1)) 75 (mjW0 s) := by
  have pre : mjF (d + 2) 34 [.ref 75] (mjW0 s) = _ := e_34 (d := d + 1)
  unfold f_34 b_34_0 at pre
  rw [xg_75_0, xV_58, j_is hT f.1 hc, bI_s, i01] at pre
  by_cases e3 : (E.1 c).1 = 3
  · have cN := lt_z hT.2.2.1 hc e3 (by decide)
    rw [if_pos e3, xg_75_0, xg_75_0, xV_58, j_now hT f.1 hc, bI_s, nI_1, xV_58, j_kind hT f.1 hc (show c + 1 ≤ N by omega), bI_s, if_neg (fun x => hne ⟨e3, x⟩)] at pre
    exact pre
  · rw [if_neg e3] at pre
    exact pre
theorem useC {z : PB} {rest : List Row} (ho : o ≤ 12) (hD : 96 ≤ D) (hc : c ≤ N) (C : CE E N q s j cs) (f : fne s c) (hz : pUse E.1 (N + 1) o c j.2.2.2.1 kq i0 = .inr z) (er : z.2.2.2.1 = oLine E.1 c :: rest) (hK : KT E.2.2.2.1 kq z.2.2.1) (hA : AG s z.2.2.2.2) (hb : cs + (z.1 - (c + 1)) ≤ 3090) : gSm E N q s (c + 1) cs j rest (bI (mjF (D + 1) 34 [.ref 75] (mjW0 s)) (fun v20 hp21 => (if v20 = 5 then b_8_233 (mjF (D + 1)) 75 hp21 else gI hp21 75 1 16 (fun v22 => rV hp21 75 1 (bN (mjF (D + 1) 32 [.ref 75, .int v22] hp21) (fun hp23 => b_8_233 (mjF (D + 1)) 75 hp23)))))) z.1 z.2.1 := by
  have hT := C.TH
  have h0 := hT.2.2.1
  have hN := hT.2.1
  have hn := C.1.hn
  have hq' : q = 2 ∨ q = 30 := C.pq
  obtain ⟨D', rfl⟩ : ∃ D', D = D' + 7 := ⟨D - 7, by omega⟩
  -- behind 34, in a bad state
  have bad : ∀ (s1 : mjSt3) (v : Int32), BC E.1 N q E.2.1 E.2.2.1 s1 → oC q s s1 → jrun E rest j = none → mjF (D' + 7 + 1) 34 [.ref 75] (mjW0 s) = some (some (.int v), mjW0 s1) → gSm E N q s (c + 1) cs j rest (bI (mjF (D' + 7 + 1) 34 [.ref 75] (mjW0 s)) (fun v20 hp21 => (if v20 = 5 then b_8_233 (mjF (D' + 7 + 1)) 75 hp21 else gI hp21 75 1 16 (fun v22 => rV hp21 75 1 (bN (mjF (D' + 7 + 1) 32 [.ref 75, .int v22] hp21) (fun hp23 => b_8_233 (mjF (D' + 7 + 1)) 75 hp23)))))) z.1 z.2.1 := by
    intro s1 v B ob nj pr
    obtain ⟨s2, w1, w2, w3⟩ := n_use (d := D') B v
    refine Or.inr ⟨s2, ?_, nj, w2, ob.tr w3⟩
    rw [pr, bI_s]
    exact w1
  unfold pUse at hz
  cases hv : prV E.1 (N + 1) o c kq with
  | inl x => rw [hv] at hz; cases hz
  | inr y =>
    rw [hv] at hz
    dsimp only at hz
    have yl := (prE_len (T := E.1) (M := N + 1) 100 0 o c kq y (by omega) hv).1
    by_cases hA1 : (E.1 y.1).1 = 61 ∧ (y.2.1 = 1 ∨ y.2.1 = 2)
    · rw [if_pos hA1] at hz
      cases hv2 : prV E.1 (N + 1) o (y.1 + 1) (kq + y.2.2.1.length) with
      | inl x => rw [hv2] at hz; cases hz
      | inr z2 =>
        rw [hv2] at hz
        dsimp only at hz
        have zl := (prE_len (T := E.1) (M := N + 1) 100 0 o (y.1 + 1) _ z2 (by omega) hv2).1
        by_cases h59 : (E.1 z2.1).1 = 59
        · rw [if_pos h59] at hz
          cases hz
          cases er
          dsimp only at hK hA hb ⊢
          by_cases s1' : y.2.1 = 1
          · obtain ⟨e3, ey⟩ := prE_s1 100 0 o c kq y (by omega) hv s1'
            subst ey
            have cN := lt_z h0 hc e3 (by decide)
            have e61 : (E.1 (c + 1)).1 = 61 := hA1.1
            have c1N := lt_z h0 (show c + 1 ≤ N by omega) e61 (by decide)
            dsimp only at *
            have pre : mjF (D' + 7 + 1) 34 [.ref 75] (mjW0 s) = _ := e_34 (d := D' + 7)
            unfold f_34 b_34_0 at pre
            rw [xg_75_0, xV_58, j_is hT f.1 hc, bI_s, i01, if_pos e3, xg_75_0, xg_75_0, xV_58, j_now hT f.1 hc, bI_s, nI_1, xV_58, j_kind hT f.1 hc (show c + 1 ≤ N by omega), bI_s, if_pos e61, xV_75] at pre
            have ol := (oLeft_c 1 [] (6, (E.1 c).2.1, 0, 0, (E.1 c).2.2.1)).1
            rw [if_pos rfl] at ol
            have ol : oLeft 1 [((6, (E.1 c).2.1, 0, 0, (E.1 c).2.2.1) : Row)] = [(15, (E.1 c).2.1, 0, 0, (E.1 c).2.2.1)] := ol
            obtain ⟨G, B⟩ := x_17 (d := D' + 5) hT C.KY C.2.2.2.1 f cN e3
            have lv := lv_row (E := E) (j := j) (E.1 c).2.1 0 0 (E.1 c).2.2.1
            have evk := vsI_K j.2.2.1 (kyT E.1 c)
            cases hvi : vsI j.2.2.1 (kyT E.1 c) with
            | none =>
              rw [hvi] at evk
              have evk : vsK j.2.2.1 (E.1 c).2.2.1 = none := evk
              rw [evk] at lv
              obtain ⟨s1, y1, y2, y3⟩ := B hvi
              have B1 := C.bad (by omega) y3 y2
              obtain ⟨s2, r1, r2, r3, r4, r5, r6, r7⟩ := x_25 (d := D' + 6) (s := s1) 2 0 (-1)
              obtain ⟨s3, hs3⟩ : ∃ z, z = uI s2 75 (upd (s2.1 75) 16 (-1)) := ⟨_, rfl⟩
              have g75 : ∀ j, ¬ (13 ≤ j ∧ j ≤ 16) → s3.1 75 j = s1.1 75 j := fun j hj => by
                rw [hs3, uI_same, upd_g, if_neg (by omega)]
                exact r5 j (by omega)
              obtain ⟨B3, o3⟩ := B1.aim (s' := s3) g75 (fun h hh => by rw [hs3, uI_ne _ _ _ _ hh]; exact r6 h hh) (by rw [hs3]; exact r7)
              rw [y1, bI_s, xV_75, x_20n.2, bI_s, xV_75, r1, bN_s, xV_75, x_20n.1, bI_s, xp_75_16, ← hs3, xg_75_13] at pre
              refine bad s3 _ B3 (y3.C.tr o3) ?_ pre
              rw [ol]
              refine jrun_no ?_
              exact jrun_no3 (a := []) (l := []) (j1 := j) rfl lv
            | some i =>
              have il := fnd_lt hvi
              obtain ⟨e, he⟩ : ∃ e, j.2.2.1[i]? = some e := ⟨_, List.getElem?_eq_getElem il⟩
              rw [hvi] at evk
              dsimp only at evk
              rw [he] at evk
              have evk : vsK j.2.2.1 (E.1 c).2.2.1 = some e := evk
              rw [evk] at lv
              dsimp only at lv
              obtain ⟨_, _, tv, fl, _⟩ := C.2.2.2.1.2.2.2.2 i e he
              have x1 : o58 s (tkGo s (c + 1)) := o58.go _ _
              have V1 := C.2.2.2.1.oE C.pq x1.oe
              obtain ⟨s2, r1, r2, r3, r4, r5, r6, r7⟩ := x_25 (d := D' + 6) (s := tkGo s (c + 1)) 2 (nI e.2.2.1) (-1)
              have u2 : oU q (tkGo s (c + 1)) s2 := oU.aim (fun j hj => r5 j (by omega)) r6 r7
              have V2 := V1.oU C.pq u2
              obtain ⟨s3, hs3⟩ : ∃ z, z = uI s2 75 (upd (s2.1 75) 16 (tyI e.2.1)) := ⟨_, rfl⟩
              have g75 : ∀ j, ¬ j = 16 → s3.1 75 j = s2.1 75 j := fun j hj => by rw [hs3, uI_same, upd_g, if_neg hj]
              have u3 : oU q s2 s3 := oU.aim (fun j hj => g75 j (by omega)) (fun h hh => by rw [hs3, uI_ne _ _ _ _ hh]) (by rw [hs3]; rfl)
              have uu : oU q s s3 := x1.oe.U.tr (u2.tr u3)
              rw [G i hvi, bI_s, xV_75, (x_20 (d := D' + 6) V1 he).2, bI_s, xV_75, r1, bN_s, xV_75, (x_20 (d := D' + 6) V2 he).1, bI_s, xp_75_16, ← hs3, xg_75_13, g75 13 (by decide), r2] at pre
              have row : ∀ h, ¬ h = 75 → ¬ h = 58 → s3.1 h = s.1 h := fun h h1 h2 => by
                rw [hs3, uI_ne _ _ _ _ h1, r6 h h1, x1.r h2]
              have sz : s3.1 (q + 24) 3 = nI (cs + ([] : List Ins).length) := by
                rw [hs3, uI_ne _ _ _ _ (by omega), r6 _ (by omega), x1.r (by omega)]; exact C.2.2.2.2
              have fn : fne s3 (c + 1) := by
                have : s3.1 58 = (tkGo s (c + 1)).1 58 := by rw [hs3, uI_ne _ _ _ _ (by decide), r6 _ (by decide)]
                exact ⟨by rw [this]; exact (f.go (c + 1)).1, by rw [this]; exact (f.go (c + 1)).2⟩
              rw [pre, bI_s, ol]
              have R := asgC (E := E) (N := N) (q := q) (s := s) (s2 := s3) (j := j) (jl := jLf j e.2.1 e.2.2.1 (jRS j)) (j' := (j.1, j.2.1, j.2.2.1, j.2.2.2.1, j.2.2.2.2.1, j.2.2.2.2.2.1, e.2.2.1, jRS j)) (cs := cs) (c0 := c + 1) (c1 := c + 1) (l1 := []) (osL := [(15, (E.1 c).2.1, 0, 0, (E.1 c).2.2.1)]) (r := (17, (E.1 (c + 1)).2.1, nI (i0 + 1), (oLast [((6, (E.1 c).2.1, 0, 0, (E.1 c).2.2.1) : Row)]).2.1, 0)) (op := 2) (p := -1) (f0 := e.2.2.1) (w := e.2.1) (D := D' + 7) ho hD C ((C.goU uu sz).same rfl rfl) fn c1N uu CL.nil (fun k _ => by rw [row _ (by omega) (by omega), row _ (by omega) (by omega), row _ (by omega) (by omega)]; exact ⟨rfl, rfl, rfl⟩) (by show 0 + (c + 1) ≤ c + 1; omega) (by rw [jrun_1, lv]) (by rw [g75 13 (by decide)]; exact r2) (by rw [g75 14 (by decide)]; exact r3) (by rw [g75 15 (by decide)]; exact r4) (by rw [hs3, uI_same, upd_g, if_pos rfl]) tv (by decide) rfl rfl ⟨rfl, rfl, ⟨[], (List.append_nil _).symm, fun e h => by cases h⟩, rfl, rfl⟩ hv2 h59 (KT.app hK).2 (AG.app hA).2 (by omega) (fun t al => ⟨fun h => by rw [sv_row, if_pos h], fun h => by rw [sv_row, if_neg h]⟩)
              exact R
          · have s2' : y.2.1 = 2 := by
              rcases hA1.2 with h | h
              · exact absurd h s1'
              · exact h
            have e61 := hA1.1
            have hne : ¬ ((E.1 c).1 = 3 ∧ (E.1 (c + 1)).1 = 61) := by
              intro h
              have := (prE_61 h.1 h.2 100 0 o kq y (by omega) hv).2
              exact s1' this
            have pre := left62 (d := D' + 6) hT f hc hne
            unfold b_34_62 b_34_96 at pre
            rw [xV_75] at pre
            rw [s2', if_neg (show ¬ (2 : Int32) = 1 by decide)]
            have G := hLV (E := E) (N := N) (q := q) (D := D' + 7) ho (by omega) c kq cs s j y hc C f hv e61 s2' (KT.app hK).1 (AG.app hA).1 (by omega)
            rcases G with ⟨s1, t, f1, t0, l1, g1, g2, g3, g4, g5, g6, g7, g8, g9, gN, g13, g14, g15⟩ | ⟨s1, vv, g1, gv, g2, B1, g4⟩
            · have y1N := lt_z h0 gN e61 (by decide)
              obtain ⟨s3, hs3⟩ : ∃ z, z = uI s1 75 (upd (s1.1 75) 16 (tyI t)) := ⟨_, rfl⟩
              have g75 : ∀ j, ¬ j = 16 → s3.1 75 j = s1.1 75 j := fun j hj => by rw [hs3, uI_same, upd_g, if_neg hj]
              have row : ∀ h, ¬ h = 75 → s3.1 h = s1.1 h := fun h h1 => by rw [hs3, uI_ne _ _ _ _ h1]
              have u3 : oU q s1 s3 := oU.aim (fun j hj => g75 j (by omega)) row (by rw [hs3]; rfl)
              have uu : oU q s s3 := g8.tr u3
              have fn : fne s3 y.1 := ⟨by rw [row 58 (by decide)]; exact g4.1, by rw [row 58 (by decide)]; exact g4.2⟩
              have sz : s3.1 (q + 24) 3 = nI (cs + l1.length) := by rw [row _ (by omega)]; exact g5
              have C3 := C.goU uu sz
              have cp : CP q (cs + l1.length) s1 s3 := fun k _ => by
                rw [row _ (by omega), row _ (by omega), row _ (by omega)]
                exact ⟨rfl, rfl, rfl⟩
              rw [g1, bI_s, xp_75_16, ← hs3, xg_75_0, xV_58, j_is C3.TH fn.1 gN, bI_s, i01, if_pos e61, xg_75_13, g75 13 (by decide), g13] at pre
              rw [pre, bI_s]
              have R := asgC (E := E) (N := N) (q := q) (s := s) (s2 := s3) (j := j) (jl := jLf j t f1 (t0 :: jRS j)) (j' := (j.1, j.2.1, j.2.2.1, j.2.2.2.1, j.2.2.2.2.1, j.2.2.2.2.2.1, f1, jRS j)) (cs := cs) (c0 := c + 1) (c1 := y.1) (l1 := l1) (osL := oLeft 2 y.2.2.2.1) (r := (18, (E.1 y.1).2.1, nI (i0 + y.2.2.2.1.length), (oLast y.2.2.2.1).2.1, 0)) (op := 4) (p := (oLast y.2.2.2.1).2.1) (f0 := f1) (w := t) (D := D' + 7) ho hD C (C3.same rfl rfl) fn y1N uu (g6.keep cp) (CP.trn g7 (cp.mono (by omega))) (by omega) g2 (by rw [g75 13 (by decide)]; exact g13) (by rw [g75 14 (by decide)]; exact g14) (by rw [g75 15 (by decide)]; exact g15) (by rw [hs3, uI_same, upd_g, if_pos rfl]) g3 (by decide) rfl rfl ⟨rfl, rfl, ⟨[], (List.append_nil _).symm, fun e h => by cases h⟩, rfl, rfl⟩ hv2 h59 (KT.app hK).2 (AG.app hA).2 (by omega) (fun t al => ⟨fun h => by rw [sf_row, if_pos h], fun h => by rw [sf_row, if_neg h]⟩)
              exact R
            · obtain ⟨s3, hs3⟩ : ∃ z, z = uI s1 75 (upd (s1.1 75) 16 (tyI vv)) := ⟨_, rfl⟩
              have row : ∀ h, ¬ h = 75 → s3.1 h = s1.1 h := fun h h1 => by rw [hs3, uI_ne _ _ _ _ h1]
              obtain ⟨B3, o3⟩ := B1.aim (s' := s3) (fun j hj => by rw [hs3, uI_same, upd_g, if_neg (by omega)]) row (by rw [hs3]; rfl)
              obtain ⟨s4, r1, r2, r3, r4, r5, r6, r7⟩ := x_25 (d := D' + 6) (s := s3) 5 0 (-1)
              obtain ⟨B4, o4⟩ := B3.aim (s' := s4) (fun j hj => r5 j (by omega)) r6 r7
              rw [g1, bI_s, xp_75_16, ← hs3, xg_75_0, xV_58, kN0 B3 (by decide), bI_s, if_pos rfl, xg_75_0, xV_58, B3.skp, bN_s, xV_75, r1, bN_s, xg_75_13] at pre
              have nb := bad s4 (s4.1 75 13) B4 (g4.tr (o3.tr o4))
              rw [s2', if_neg (show ¬ (2 : Int32) = 1 by decide)] at nb
              exact nb (by rw [List.append_assoc]; exact jrun_no g2) pre
        · rw [if_neg h59] at hz; cases hz
    · rw [if_neg hA1] at hz
      by_cases hB : (E.1 y.1).1 = 59 ∧ y.2.1 = 3
      · rw [if_pos hB] at hz
        cases hz
        cases er
        dsimp only at hK hA hb ⊢
        have hne : ¬ ((E.1 c).1 = 3 ∧ (E.1 (c + 1)).1 = 61) := by
          intro h
          have := (prE_61 h.1 h.2 100 0 o kq y (by omega) hv).2
          rw [hB.2] at this
          cases this
        have n61 : ¬ (E.1 y.1).1 = 61 := by rw [hB.1]; decide
        have pre := left62 (d := D' + 6) hT f hc hne
        unfold b_34_62 b_34_96 at pre
        rw [xV_75] at pre
        have G := hV (E := E) (N := N) (q := q) (D := D' + 7) ho (by omega) c kq cs s j y hc C f hv n61 hK hA (by omega)
        rcases G with ⟨s1, t, al, l, g1, A, gN, g4⟩ | ⟨s1, vv, g1, gv, g2, B1, g4⟩
        · have g4 : l.length + c + 3 ≤ y.1 := g4 hB.2
          have y1N := lt_z h0 gN hB.1 (by decide)
          obtain ⟨s3, hs3⟩ : ∃ z, z = uI s1 75 (upd (s1.1 75) 16 (tyI t)) := ⟨_, rfl⟩
          have row3 : ∀ h, ¬ h = 75 → s3.1 h = s1.1 h := fun h h1 => by rw [hs3, uI_ne _ _ _ _ h1]
          have u3 : oU q s1 s3 := oU.aim (fun j hj => by rw [hs3, uI_same, upd_g, if_neg (by omega)]) row3 (by rw [hs3]; rfl)
          have f3 : fne s3 y.1 := ⟨by rw [row3 58 (by decide)]; exact A.2.2.1.1, by rw [row3 58 (by decide)]; exact A.2.2.1.2⟩
          have C1 := C.go A.2.2.2.2.2.2.1 A.2.2.2.1
          have C3 := C1.goU u3 (n := cs + l.length) (by rw [row3 _ (by omega)]; exact A.2.2.2.1)
          have xg : o58 s3 (tkGo s3 (y.1 + 1)) := o58.go _ _
          obtain ⟨s4, r1, r2, r3, r4, r5, r6, r7⟩ := x_25 (d := D' + 6) (s := tkGo s3 (y.1 + 1)) 5 0 (-1)
          have u4 : oU q (tkGo s3 (y.1 + 1)) s4 := oU.aim (fun j hj => r5 j (by omega)) r6 r7
          have uu : oU q s1 s4 := u3.tr (xg.oe.U.tr u4)
          have row : ∀ h, ¬ h = 75 → ¬ h = 58 → s4.1 h = s1.1 h := fun h h1 h2 => by rw [r6 h h1, xg.r h2, row3 h h1]
          have C4 := C1.goU uu (n := cs + l.length) (by rw [row _ (by omega) (by omega)]; exact A.2.2.2.1)
          rw [g1, bI_s, xp_75_16, ← hs3, xg_75_0, xV_58, j_is C3.TH f3.1 gN, bI_s, i01, if_neg n61, xg_75_0, xV_58, j_skip C3.TH f3 y1N, bN_s, xV_75, r1, bN_s, xg_75_13, r2] at pre
          obtain ⟨s5, w1, w2, w3, w4, w5, w6⟩ := put1 (d := D' + 7) C4 (by omega) 5 0 (-1)
          rw [pre, bI_s, if_pos rfl]
          unfold b_8_233
          rw [xg_75_5, C4.1.2.2.2.2.2.2.2, xg_75_13, xg_75_14, xg_75_15, r2, r3, r4, ycV C.pq, w1, bI_s]
          have cp : CP q (cs + l.length) s1 s4 := fun k _ => by
            rw [row _ (by omega) (by omega), row _ (by omega) (by omega), row _ (by omega) (by omega)]
            exact ⟨rfl, rfl, rfl⟩
          have ll : (l ++ [((5, 0, -1) : Ins)]).length = l.length + 1 := by rw [List.length_append, List.length_singleton]
          refine Or.inl ⟨s5, j, l ++ [(5, 0, -1)], rfl, ⟨?_, ?_, ?_, ?_, ?_, (oE.S A.2.2.2.2.2.2.1).tr (uu.S.tr w2.S), ?_, ?_, JK.rf⟩, rfl⟩
          · rw [jrun_app, A.1]
            dsimp only
            rw [jrun_1, dr_row]
          · rw [ll, ← Nat.add_assoc]
            exact C4.go w2 w4
          · have : s5.1 58 = (tkGo s3 (y.1 + 1)).1 58 := by rw [w3, r6 _ (by decide)]
            exact ⟨by rw [this]; exact (f3.go (y.1 + 1)).1, by rw [this]; exact (f3.go (y.1 + 1)).2⟩
          · exact ((A.2.2.2.2.1.keep cp).keep w6).app w5
          · exact CP.trn A.2.2.2.2.2.1 (CP.trn (cp.mono (by omega)) (w6.mono (by omega)))
          · rw [ll]; omega
          · show y.1 + 1 ≤ N; omega
        · obtain ⟨s3, hs3⟩ : ∃ z, z = uI s1 75 (upd (s1.1 75) 16 (tyI vv)) := ⟨_, rfl⟩
          have row : ∀ h, ¬ h = 75 → s3.1 h = s1.1 h := fun h h1 => by rw [hs3, uI_ne _ _ _ _ h1]
          obtain ⟨B3, o3⟩ := B1.aim (s' := s3) (fun j hj => by rw [hs3, uI_same, upd_g, if_neg (by omega)]) row (by rw [hs3]; rfl)
          obtain ⟨s4, r1, r2, r3, r4, r5, r6, r7⟩ := x_25 (d := D' + 6) (s := s3) 5 0 (-1)
          obtain ⟨B4, o4⟩ := B3.aim (s' := s4) (fun j hj => r5 j (by omega)) r6 r7
          rw [g1, bI_s, xp_75_16, ← hs3, xg_75_0, xV_58, kN0 B3 (by decide), bI_s, if_pos rfl, xg_75_0, xV_58, B3.skp, bN_s, xV_75, r1, bN_s, xg_75_13] at pre
          exact bad s4 _ B4 (g4.tr (o3.tr o4)) (jrun_no g2) pre
      · rw [if_neg hB] at hz; cases hz
end MJA41
end
section
/-! ===== the Coder: BLOCKS ===== -/
theorem pSeq_pre {T : TT} {rd : Nat → Nat → Nat → Nat → PY} {kq i0 : Nat} (hr : ∀ c td kq i0 x, rd c td kq i0 = .inr x → c < x.1) : ∀ (k : Nat) (z y : PB), pSeq T rd kq i0 k z = .inr y → z.1 ≤ y.1 ∧ ∃ a b c, y.2.2.1 = z.2.2.1 ++ a ∧ y.2.2.2.1 = z.2.2.2.1 ++ b ∧ y.2.2.2.2 = z.2.2.2.2 ++ c
  | 0, z, y, h => by cases h; exact ⟨Nat.le_refl _, [], [], [], (List.append_nil _).symm, (List.append_nil _).symm, (List.append_nil _).symm⟩
  | k + 1, z, y, h => by
    unfold pSeq at h
    by_cases g : (T z.1).1 = 125
    · rw [if_pos g] at h
      cases h
      exact ⟨Nat.le_refl _, [], [], [], (List.append_nil _).symm, (List.append_nil _).symm, (List.append_nil _).symm⟩
    · rw [if_neg g] at h
      cases hd : rd z.1 z.2.1 (kq + z.2.2.1.length) (i0 + z.2.2.2.1.length) with
      | inl e => rw [hd] at h; cases h
      | inr x =>
        rw [hd] at h
        have := hr _ _ _ _ _ hd
        obtain ⟨h1, a, b, c, h2, h3, h4⟩ := pSeq_pre hr k _ y h
        dsimp only at h1 h2 h3 h4
        exact ⟨by omega, _, _, _, by rw [h2, List.append_assoc], by rw [h3, List.append_assoc], by rw [h4, List.append_assoc]⟩
theorem prS_lt {T : TT} {M : Nat} : ∀ (f tag o c td kq i0 : Nat) (y : PB), tag ≤ 1 → prS T M f tag o c td kq i0 = .inr y → c < y.1
  | 0, _, _, _, _, _, _, _, _, h => by cases h
  | f + 1, 0, o, c, td, kq, i0, y, _, h => by
    rw [prS_0] at h
    unfold pBlk at h
    by_cases a : (T c).1 = 123
    · rw [if_pos a] at h
      by_cases b : o = 12
      · rw [if_pos b] at h; cases h
      rw [if_neg b] at h
      cases hd : pSeq T (prS T M f 1 (o + 1)) kq i0 M (c + 1, td, [], [(26, (T (c + 1)).2.1, 0, 0, 0)], []) with
      | inl e => rw [hd] at h; cases h
      | inr z =>
        rw [hd] at h
        dsimp only at h
        have := (pSeq_pre (fun c td kq i0 x hx => prS_lt f 1 (o + 1) c td kq i0 x (by omega) hx) _ _ _ hd).1
        dsimp only at this
        by_cases g : (T z.1).1 = 125
        · rw [if_pos g] at h; cases h; show c < z.1 + 1; omega
        · rw [if_neg g] at h; cases h
    · rw [if_neg a] at h; cases h
  | f + 1, 1, o, c, td, kq, i0, y, _, h => by
    rw [prS_1] at h
    have grd : ∀ i0 x, pGrd T M (prS T M f 0 o) o c td kq i0 = .inr x → c < x.1.1 ∧ x.1.1 < x.2.1 := by
      intro i0 x hx
      unfold pGrd at hx
      by_cases a : (T (c + 1)).1 = 40
      · rw [if_pos a] at hx
        by_cases b : o = 12
        · rw [if_pos b] at hx; cases hx
        rw [if_neg b] at hx
        cases hv : prV T M (o + 1) (c + 2) kq with
        | inl e => rw [hv] at hx; cases hx
        | inr v =>
          rw [hv] at hx
          dsimp only at hx
          have hl := (prE_len (T := T) (M := M) 100 0 (o + 1) (c + 2) kq v (by omega) hv).1
          by_cases g : (T v.1).1 = 41
          · rw [if_pos g] at hx
            cases hb : prS T M f 0 o (v.1 + 1) td (kq + v.2.2.1.length) (i0 + v.2.2.2.1.length + 1) with
            | inl e => rw [hb] at hx; cases hx
            | inr w =>
              rw [hb] at hx
              cases hx
              have := prS_lt f 0 o _ _ _ _ w (by omega) hb
              dsimp only
              omega
          · rw [if_neg g] at hx; cases hx
      · rw [if_neg a] at hx; cases hx
    by_cases e1 : (T c).1 = 2 ∨ (T c).1 = 10
    · rw [if_pos e1] at h
      unfold pDecl at h
      cases hp : pType T c with
      | inl x => rw [hp] at h; cases h
      | inr c1 =>
        rw [hp] at h
        dsimp only at h
        have l1 := (pType_len hp).1
        by_cases h3 : (T c1).1 = 3
        · rw [if_pos h3] at h
          by_cases t16 : td = 16
          · rw [if_pos t16] at h; cases h
          rw [if_neg t16] at h
          by_cases h61 : (T (c1 + 1)).1 = 61
          · rw [if_pos h61] at h
            cases hv : prV T M o (c1 + 2) (kq + (if (T c).1 = 10 then 0 else 1)) with
            | inl x => rw [hv] at h; cases h
            | inr v =>
              rw [hv] at h
              dsimp only at h
              have hl := (prE_len (T := T) (M := M) 100 0 o (c1 + 2) _ v (by omega) hv).1
              by_cases h59 : (T v.1).1 = 59
              · rw [if_pos h59] at h; cases h; show c < v.1 + 1; omega
              · rw [if_neg h59] at h; cases h
          · rw [if_neg h61] at h; cases h
        · rw [if_neg h3] at h; cases h
    rw [if_neg e1] at h
    by_cases e15 : (T c).1 = 15
    · rw [if_pos e15] at h
      unfold pIf at h
      cases hg : pGrd T M (prS T M f 0 o) o c td kq (i0 + 1) with
      | inl e => rw [hg] at h; cases h
      | inr x =>
        rw [hg] at h
        obtain ⟨g1, g2⟩ := grd _ _ hg
        obtain ⟨v, w⟩ := x
        dsimp only at h g1 g2
        by_cases e16 : (T w.1).1 = 16
        · rw [if_pos e16] at h
          cases hb : prS T M f 0 o (w.1 + 1) w.2.1 (kq + v.2.2.1.length + w.2.2.1.length) (i0 + 3 + v.2.2.2.1.length + w.2.2.2.1.length) with
          | inl e => rw [hb] at h; cases h
          | inr u =>
            rw [hb] at h
            cases h
            have := prS_lt f 0 o _ _ _ _ u (by omega) hb
            show c < u.1
            omega
        · rw [if_neg e16] at h; cases h; show c < w.1; omega
    rw [if_neg e15] at h
    by_cases e17 : (T c).1 = 17
    · rw [if_pos e17] at h
      unfold pWhile at h
      cases hg : pGrd T M (prS T M f 0 o) o c td kq (i0 + 2) with
      | inl e => rw [hg] at h; cases h
      | inr x =>
        rw [hg] at h
        obtain ⟨g1, g2⟩ := grd _ _ hg
        obtain ⟨v, w⟩ := x
        dsimp only at g1 g2
        cases h
        show c < w.1
        omega
    rw [if_neg e17] at h
    have giv : ∀ w, pGive T M o c td kq w = .inr y → c < y.1 := by
      intro w hx
      unfold pGive at hx
      cases hv : prV T M o (c + 1) kq with
      | inl e => rw [hv] at hx; cases hx
      | inr v =>
        rw [hv] at hx
        dsimp only at hx
        have hl := (prE_len (T := T) (M := M) 100 0 o (c + 1) kq v (by omega) hv).1
        by_cases g : (T v.1).1 = 59
        · rw [if_pos g] at hx; cases hx; show c < v.1 + 1; omega
        · rw [if_neg g] at hx; cases hx
    by_cases e18 : (T c).1 = 18
    · rw [if_pos e18] at h; exact giv _ h
    rw [if_neg e18] at h
    by_cases e19 : (T c).1 = 19
    · rw [if_pos e19] at h; exact giv _ h
    rw [if_neg e19] at h
    by_cases e123 : (T c).1 = 123
    · rw [if_pos e123] at h
      exact prS_lt f 0 o c td kq i0 y (by omega) h
    rw [if_neg e123] at h
    unfold pUse at h
    cases hv : prV T M o c kq with
    | inl e => rw [hv] at h; cases h
    | inr v =>
      rw [hv] at h
      dsimp only at h
      have hl := (prE_len (T := T) (M := M) 100 0 o c kq v (by omega) hv).1
      by_cases g : (T v.1).1 = 61 ∧ (v.2.1 = 1 ∨ v.2.1 = 2)
      · rw [if_pos g] at h
        cases hv2 : prV T M o (v.1 + 1) (kq + v.2.2.1.length) with
        | inl e => rw [hv2] at h; cases h
        | inr w =>
          rw [hv2] at h
          dsimp only at h
          have hl2 := (prE_len (T := T) (M := M) 100 0 o (v.1 + 1) _ w (by omega) hv2).1
          by_cases g2 : (T w.1).1 = 59
          · rw [if_pos g2] at h; cases h; show c < w.1 + 1; omega
          · rw [if_neg g2] at h; cases h
      · rw [if_neg g] at h
        by_cases g2 : (T v.1).1 = 59 ∧ v.2.1 = 3
        · rw [if_pos g2] at h; cases h; show c < v.1 + 1; omega
        · rw [if_neg g2] at h; cases h
  | f + 1, t + 2, o, c, td, kq, i0, y, ht, h => by omega
section MJA42
variable {E : EV} {d N q c t n e k u v i m o w cs c0 c1 kq nt D me i0 td kn : Nat} {s s1 s2 s' s0 : mjSt3} {j j0 j' jb : JS} {y z : PB} {os : List Row} {l l1 : List Ins} {r : Row}
/-- the loop of codeBlock -/
theorem seqC {rd : Nat → Nat → Nat → Nat → PY} (h8 : hSt E N q (d + 1) 8 0 rd) (hlt : ∀ c td kq i0 x, rd c td kq i0 = .inr x → c < x.1) (C : CE E N q s0 jb cs) (hR : RT E s0) (hVD : VD jb) (hK : KT E.2.2.2.1 kq y.2.2.1) (hA : AG s0 y.2.2.2.2) (hP : ∀ os', y.2.2.2.1 = r :: os' → PS E (i0 + 1) cs os' jb) (hb : cs + (y.1 - c0) ≤ 3090) (hi0 : i0 + y.2.2.2.1.length ≤ 100000) (hkq : kq + y.2.2.1.length ≤ 100000) (hkn : kn ≤ 16) : ∀ (k n i : Nat) (z : PB) (s : mjSt3) (j : JS) (l : List Ins) (os' : List Row), pSeq E.1 rd kq i0 k z = .inr y → z.2.2.2.1 = r :: os' → i + k = N + 1 → k < n → atS E N q s0 c0 cs jb os' s z.1 j l → j.2.2.2.1 = z.2.1 → (∃ s' j' l' os'', y.2.2.2.1 = r :: os'' ∧ L_7_14 (mjF (d + 1)) n 75 (nI kn) (nI i) (mjW0 s) = b_7_57 (mjF (d + 1)) 75 (nI kn) (mjW0 s') ∧ atS E N q s0 c0 cs jb os'' s' y.1 j' l' ∧ j'.2.2.2.1 = y.2.1) ∨ (∃ s' os'', y.2.2.2.1 = r :: os'' ∧ L_7_14 (mjF (d + 1)) n 75 (nI kn) (nI i) (mjW0 s) = some (none, mjW0 s') ∧ bdC E N q s0 jb os'' s')
  | k, 0, i, z, s, j, l, os', h, ez, hi, hk, A, htd => by omega
  | 0, n + 1, i, z, s, j, l, os', h, ez, hi, hk, A, htd => by
    cases h
    have hT := A.2.1.TH
    refine Or.inl ⟨s, j, l, os', ez, ?_, A, htd⟩
    rw [L7_S]
    unfold b_7_14
    rw [xg_75_0, xV_58, sz0 hT A.2.2.1.1 A.2.2.2.2.2.2.2.1, bI_s, if_pos (show nI (N + 1) ≤ nI i by rw [show i = N + 1 by omega]; exact Int32.le_refl _)]
  | k + 1, n + 1, i, z, s, j, l, os', h, ez, hi, hk, A, htd => by
    obtain ⟨A1, A2, A3, A4, A5, A6, A7, A8, A9⟩ := id A
    have hT := A2.TH
    have hN := hT.2.1
    have hq' : q = 2 ∨ q = 30 := C.pq
    have pre : L_7_14 (mjF (d + 1)) (n + 1) 75 (nI kn) (nI i) (mjW0 s) = _ := L7_S _ _ _ _ _ _
    unfold b_7_14 at pre
    rw [xg_75_0, xV_58, sz0 hT A3.1 A8, bI_s, if_neg (show ¬ nI (N + 1) ≤ nI i from nI_ge (by omega) (by omega)), xg_75_0, xV_58, j_is hT A3.1 A8, bI_s, i01] at pre
    unfold pSeq at h
    by_cases g : (E.1 z.1).1 = 125
    · rw [if_pos g] at h pre
      cases h
      exact Or.inl ⟨s, j, l, os', ez, pre, A, htd⟩
    · rw [if_neg g] at h pre
      rw [xg_75_0, xV_58, j_fine A3, bI_s, if_neg (by decide), xV_75] at pre
      cases hd : rd z.1 z.2.1 (kq + z.2.2.1.length) (i0 + z.2.2.2.1.length) with
      | inl e => rw [hd] at h; cases h
      | inr x =>
        rw [hd] at h
        dsimp only at h
        have zx := hlt _ _ _ _ _ hd
        obtain ⟨h1, pa, pb, pc, p1, p2, p3⟩ := pSeq_pre hlt k _ y h
        dsimp only at h1 p1 p2 p3
        have e1 : y.2.2.2.1 = r :: (os' ++ (x.2.2.2.1 ++ pb)) := by rw [p2, ez, List.append_assoc]; rfl
        have P1 := hP _ e1
        have P2 : PS E (i0 + 1 + os'.length) (cs + l.length) x.2.2.2.1 j := (P1.sub A1).prf
        rw [← htd, ez, List.length_cons, show i0 + (os'.length + 1) = i0 + 1 + os'.length by omega] at hd
        have K1 := (KT.app (KT.app (show KT E.2.2.2.1 kq ((z.2.2.1 ++ x.2.2.1) ++ pa) from p1 ▸ hK)).1).2
        have G1 : AG s0 x.2.2.2.2 := (AG.app (AG.app (show AG s0 ((z.2.2.2.2 ++ x.2.2.2.2) ++ pc) from p3 ▸ hA)).1).2
        have len1 : y.2.2.2.1.length = 1 + os'.length + x.2.2.2.1.length + pb.length := by rw [e1, List.length_cons, List.length_append, List.length_append]; omega
        have len2 : y.2.2.1.length = z.2.2.1.length + x.2.2.1.length + pa.length := by rw [p1, List.length_append, List.length_append]
        have G := h8 z.1 (kq + z.2.2.1.length) (i0 + 1 + os'.length) (cs + l.length) s j x A8 A2 (hR.oSt C.pq A6) (hVD.jk A9) A3 hd K1 (G1.oSt C.pq A6) P2 (by omega) (by omega) (by omega)
        rcases G with ⟨s2, j2, l2, g1, ⟨b1, b2', b3, b4, b5, b6, b7, b8, b9⟩, g3⟩ | ⟨s2, g1, g2, g3, g4⟩
        · rw [g1, bN_s, nI_1] at pre
          rw [pre]
          refine seqC h8 hlt C hR hVD hK hA hP hb hi0 hkq hkn k n (i + 1) _ s2 j2 (l ++ l2) (os' ++ x.2.2.2.1) h (by rw [ez]; rfl) (by omega) (by omega) ⟨?_, ?_, b3, (A4.keep b5).app b4, CP.trn A5 (b5.mono (by omega)), A6.tr b6, ?_, b8, A9.trn b9⟩ g3
          · rw [jrun_app, A1]
            dsimp only
            rw [b1]
          · rw [List.length_append, ← Nat.add_assoc]; exact b2'
          · rw [List.length_append]; omega
        · rw [g1, bN_s] at pre
          obtain ⟨n', rfl⟩ : ∃ n', n = n' + 1 := ⟨n - 1, by omega⟩
          obtain ⟨s3, w1, w2, w3⟩ := n_7l (d := d) g3 hkn n' (nI i + 1)
          rw [w1] at pre
          refine Or.inr ⟨s3, _, e1, pre, ?_, w2, A6.C.tr (g4.tr w3)⟩
          rw [jrun_app, A1]
          dsimp only
          rw [jrun_no g2]
end MJA42
end
