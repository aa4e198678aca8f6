/-! ===== the Coder: two values and an operator ===== -/
theorem opr_nbr {K : Int32} (h : isCmp K = true ∨ isSum K = true ∨ isPro K = true) : opr (nbr K 0) = (if K = 37 then 21 else if K = 42 then 19 else if K = 43 then 17 else if K = 45 then 18 else if K = 47 then 20 else if K = 60 then 22 else if K = 200 then 23 else 24) := by
  unfold isCmp isSum isPro at h
  simp only [decide_eq_true_eq] at h
  rcases h with (h | h | h) | (h | h) | (h | h | h) <;> subst h <;> decide
/-- the TYPES of two values that an operator takes -/
def tcd (K : Int32) (t1 t2 : Nat) : Prop := if nbr K 0 = 257 ∨ nbr K 0 = 258 then (t1 = 0 ↔ t2 = 0) else (t1 = 0 ∧ t2 = 0)
theorem tcd_n {K : Int32} {t1 t2 : Nat} (h : isSum K = true ∨ isPro K = true ∨ K = 60) : tcd K t1 t2 ↔ (t1 = 0 ∧ t2 = 0) := by
  have : ¬ (nbr K 0 = 257 ∨ nbr K 0 = 258) := by
    unfold isSum isPro at h
    simp only [decide_eq_true_eq] at h
    rcases h with (h | h) | (h | h | h) | h <;> subst h <;> decide
  unfold tcd
  rw [if_neg this]
theorem tcd_e {K : Int32} {t1 t2 : Nat} (h : K = 200 ∨ K = 201) : tcd K t1 t2 ↔ (t1 = 0 ↔ t2 = 0) := by
  have : nbr K 0 = 257 ∨ nbr K 0 = 258 := by
    rcases h with h | h <;> subst h <;> decide
  unfold tcd
  rw [if_pos this]
theorem pLoop_pre {T : TT} {sg : Int32 → Bool} {rd : Nat → Nat → PX} {kq : Nat} (hr : ∀ c kq x, rd c kq = .inr x → c < x.1) : ∀ (k : Nat) (z y : PZ), pLoop T sg rd kq k z = .inr y → z.1 ≤ y.1 ∧ ∃ a b c, y.2.2.1 = z.2.2.1 ++ a ∧ y.2.2.2.1 = z.2.2.2.1 ++ b ∧ y.2.2.2.2 = z.2.2.2.2 ++ c
  | 0, z, y, h => by cases h; exact ⟨Nat.le_refl _, [], [], [], (List.append_nil _).symm, (List.append_nil _).symm, (List.append_nil _).symm⟩
  | k + 1, z, y, h => by
    unfold pLoop at h
    by_cases g : sg (T z.1).1 = true
    · rw [if_pos g] at h
      cases hd : rd (z.1 + 1) (kq + z.2.2.1.length) with
      | inl e => rw [hd] at h; cases h
      | inr x =>
        rw [hd] at h
        have := hr _ _ _ hd
        obtain ⟨h1, a, b, c, h2, h3, h4⟩ := pLoop_pre hr k _ y h
        dsimp only at h1 h2 h3 h4
        exact ⟨by omega, _, _, _, by rw [h2, List.append_assoc], by rw [h3, List.append_assoc, List.append_assoc], by rw [h4, List.append_assoc]⟩
    · rw [if_neg g] at h
      cases h
      exact ⟨Nat.le_refl _, [], [], [], (List.append_nil _).symm, (List.append_nil _).symm, (List.append_nil _).symm⟩
theorem pLoop_end {T : TT} {sg : Int32 → Bool} {rd : Nat → Nat → PX} {kq k : Nat} {z y : PZ} (h : pLoop T sg rd kq k z = .inr y) (h61 : (T z.1).1 = 61) (hs : sg 61 = false) : y = z := by
  cases k with
  | zero => cases h; rfl
  | succ k =>
    unfold pLoop at h
    rw [if_neg (by rw [h61, hs]; decide)] at h
    cases h; rfl
section MJA33
variable {E : EV} {d N q c t n e k u v i m o w cs c0 c1 c2 kq nt t1 t2 D me : Nat} {s s1 s2 s' s0 : mjSt3} {j j0 : JS} {y z : PZ} {os os1 os2 : List Row} {l l1 l2 : List Ins} {al al1 al2 : Bool}
theorem two_row (x K : Int32) (h : tcd K t1 t2) : jrow E (9, x, nbr K 0, 0, 0) (jE (jE j0 t1 al1) t2 al2) = some (jE j0 0 false, [(opr (nbr K 0), 0, x)]) := if_pos h
theorem two_no (x K : Int32) (h : ¬ tcd K t1 t2) : jrow E (9, x, nbr K 0, 0, 0) (jE (jE j0 t1 al1) t2 al2) = none := if_neg h
theorem BC.of58' (B : BC E.1 N q E.2.1 E.2.2.1 s) (x : o58 s s') (b : s' = s ∨ bdd N s') : BC E.1 N q E.2.1 E.2.2.1 s' := by
  rcases b with b | b
  · rw [b]; exact B
  · exact BC.of58 B.1 x b B.2.2.1 B.2.2.2
/-- askNumbers -/
theorem x_28 (C : CB E.1 N q E.2.1 E.2.2.1 s) (g : GB N s) (ht : t ≤ N) (h1 : t1 < 524290) (h2 : t2 < 524290) : ∃ s', mjF (d + 3) 28 [.ref 75, .int (tyI t1), .int (tyI t2), .int (nI t)] (mjW0 s) = some (none, mjW0 s') ∧ o58 s s' ∧ (t1 = 0 ∧ t2 = 0 → s' = s) ∧ (¬ (t1 = 0 ∧ t2 = 0) → bdd N s') := by
  obtain ⟨y, y1, y2, y3, y4⟩ := x_27 (d := d) C g ht h1
  have gy : GB N y := by
    by_cases e : t1 = 0
    · rw [y3 e]; exact g
    · exact GB.ob (y4 e)
  obtain ⟨z, z1, z2, z3, z4⟩ := x_27 (d := d) (C.oC y2.C) gy ht h2
  refine ⟨z, ?_, y2.tr z2, fun h => by rw [z3 h.2, y3 h.1], fun h => ?_⟩
  · rw [e_28]
    unfold f_28 b_28_0
    rw [xV_75, y1, bN_s, xV_75, z1, bN_s]
  · by_cases e : t2 = 0
    · rw [z3 e]
      exact y4 (fun x => h ⟨x, e⟩)
    · exact z4 e
/-- codeOperator, in a bad state -/
theorem n_29 (B : BC E.1 N q E.2.1 E.2.2.1 s) (ht : t ≤ N) : ∃ s', mjF (d + 2) 29 [.ref 75, .int (nI t)] (mjW0 s) = some (some (.int (-1)), mjW0 s') ∧ BC E.1 N q E.2.1 E.2.2.1 s' ∧ oC q s s' := by
  have pre : mjF (d + 2) 29 [.ref 75, .int (nI t)] (mjW0 s) = _ := e_29 (d := d + 1)
  unfold f_29 b_29_0 at pre
  rw [xg_75_5, B.1.2.2.2.2.2.2.2, xg_75_0, xV_58, j_kind B.1.1.1.1 B.2.1.1 (Nat.le_refl N) ht, bI_s, x_30, bI_s, xg_75_0, xV_58, j_place B.1.1.1.1 B.2.1.1 (Nat.le_refl N) ht, bI_s, ycV B.1.pq] at pre
  obtain ⟨y, n', w1, w2, w3, w4, w5⟩ := n_emit (d := d) B (if (E.1 t).1 = 37 then 21 else if (E.1 t).1 = 42 then 19 else if (E.1 t).1 = 43 then 17 else if (E.1 t).1 = 45 then 18 else if (E.1 t).1 = 47 then 20 else if (E.1 t).1 = 60 then 22 else if (E.1 t).1 = 200 then 23 else 24) 0 (E.1 t).2.1
  rw [w1, bI_s] at pre
  exact ⟨y, pre, w3, w4⟩
/-- the code of two values, one behind the other -/
theorem twoJ {r : Row} (A1 : atC E N q s0 c0 cs j0 os1 s c1 t1 al1 l1) (A2 : jrun E os2 (jE j0 t1 al1) = some (jE (jE j0 t1 al1) t2 al2, l2)) : jrun E (os1 ++ os2 ++ [r]) j0 = match jrow E r (jE (jE j0 t1 al1) t2 al2) with
    | none => none
    | some (j2, c2) => some (j2, (l1 ++ l2) ++ c2) := by
  rw [jrun_app, jrun_app, A1.1]
  dsimp only
  rw [A2]
  dsimp only
  rw [jrun_1]
  rfl
theorem twoN {r : Row} (A1 : atC E N q s0 c0 cs j0 os1 s c1 t1 al1 l1) (A2 : jrun E os2 (jE j0 t1 al1) = none) : jrun E (os1 ++ os2 ++ [r]) j0 = none := by
  rw [jrun_app, jrun_app, A1.1]
  dsimp only
  rw [A2]
/-- codeOperator -/
theorem twoG (C : CE E N q s0 j0 cs) (A1 : atC E N q s0 c0 cs j0 os1 s c1 t1 al1 l1) (hc1 : c1 ≤ N) (x : o58 s s1) (A2 : atC E N q s1 (c1 + 1) (cs + l1.length) (jE j0 t1 al1) os2 s2 c2 t2 al2 l2) (hc2 : c2 ≤ N) (ho : isCmp (E.1 c1).1 = true ∨ isSum (E.1 c1).1 = true ∨ isPro (E.1 c1).1 = true) (hc : tcd (E.1 c1).1 t1 t2) (hb : cs + (c2 - c0) ≤ 3090) : ∃ s3 l3, mjF (d + 2) 29 [.ref 75, .int (nI c1)] (mjW0 s2) = some (some (.int (-1)), mjW0 s3) ∧ atC E N q s0 c0 cs j0 (os1 ++ os2 ++ [oTwo E.1 c1]) s3 c2 0 false l3 := by
  have tj := twoJ (r := oTwo E.1 c1) A1 A2.1
  have tr := two_row (E := E) (j0 := j0) (t1 := t1) (al1 := al1) (t2 := t2) (al2 := al2) (E.1 c1).2.1 (E.1 c1).1 hc
  rw [show oTwo E.1 c1 = (9, (E.1 c1).2.1, nbr (E.1 c1).1 0, 0, 0) from rfl, tr, opr_nbr ho] at tj
  obtain ⟨a1, a2, a3, a4, a5, a6, a7, a8⟩ := A1
  obtain ⟨b1, b2', b3, b4, b5, b6, b7, b8⟩ := A2
  have oe2 : oE q s0 s2 := a7.tr (x.oe.tr b7)
  have sz : s2.1 (q + 24) 3 = nI (cs + (l1.length + l2.length)) := by rw [b4, Nat.add_assoc]
  have C2 : CE E N q s2 j0 (cs + (l1.length + l2.length)) := C.go oe2 sz
  obtain ⟨s3, w1, w2, w3, w4, w5, w6⟩ := put1 (d := d) C2 (by omega) (if (E.1 c1).1 = 37 then 21 else if (E.1 c1).1 = 42 then 19 else if (E.1 c1).1 = 43 then 17 else if (E.1 c1).1 = 45 then 18 else if (E.1 c1).1 = 47 then 20 else if (E.1 c1).1 = 60 then 22 else if (E.1 c1).1 = 200 then 23 else 24) 0 (E.1 c1).2.1
  have CL2 : CL q s2 cs (l1 ++ l2) := (a5.keep (CP.trn (CP.o58 C.pq x) b6)).app b5
  have ll : (l1 ++ l2).length = l1.length + l2.length := List.length_append
  refine ⟨s3, _, ?_, tj, Or.inr (Or.inl rfl), ⟨by rw [w3]; exact b3.1, by rw [w3]; exact b3.2⟩, ?_, (CL2.keep (by rw [ll]; exact w6)).app (by rw [ll]; exact w5), CP.trn (CP.trn a6 (CP.trn (CP.o58 C.pq x) (b6.mono (by omega)))) (w6.mono (by omega)), oe2.tr w2, ?_⟩
  · rw [e_29]
    unfold f_29 b_29_0
    rw [xg_75_5, C2.1.2.2.2.2.2.2.2, xg_75_0, xV_58, j_kind C2.TH b3.1 hc2 hc1, bI_s, x_30, bI_s, xg_75_0, xV_58, j_place C2.TH b3.1 hc2 hc1, bI_s, ycV C.pq, w1, bI_s]
  · rw [w4, List.length_append, ll, List.length_singleton, Nat.add_assoc]
  · rw [List.length_append, ll, List.length_singleton]; omega
/-- a value, the operator behind it, the value behind that (SUM, PRODUCT) -/
theorem stepC {rd : Nat → Nat → PX} {P : Nat → PZ → Bool → List Ins → Prop} (ih : hE E N q (d + 3) me rd P) (C : CE E N q s0 j0 cs) (A : atC E N q s0 c0 cs j0 os s c1 t1 al1 l) (hc1 : c1 < N) (ho : isSum (E.1 c1).1 = true ∨ isPro (E.1 c1).1 = true) (hy : rd (c1 + 1) kq = .inr y) (y61 : ¬ (E.1 y.1).1 = 61) (hcy : c1 < y.1) (hK : KT E.2.2.2.1 kq y.2.2.1) (hA : AG s0 y.2.2.2.2) (hb : cs + (y.1 - c0) ≤ 3090) : (∃ s3 l3, (∀ K : Int32 → mjH → mjU, bI (mjF (d + 3) me [.ref 75] (mjW0 (tkGo s (c1 + 1)))) (fun v hp => rV hp 75 1 (bN (mjF (d + 3) 28 [.ref 75, .int (tyI t1), .int v, .int (nI c1)] hp) (fun hp => rV hp 75 1 (bI (mjF (d + 3) 29 [.ref 75, .int (nI c1)] hp) K)))) = K (-1) (mjW0 s3)) ∧ atC E N q s0 c0 cs j0 (os ++ y.2.2.2.1 ++ [oTwo E.1 c1]) s3 y.1 0 false l3 ∧ y.1 ≤ N) ∨ (∃ s3, (∀ K : Int32 → mjH → mjU, bI (mjF (d + 3) me [.ref 75] (mjW0 (tkGo s (c1 + 1)))) (fun v hp => rV hp 75 1 (bN (mjF (d + 3) 28 [.ref 75, .int (tyI t1), .int v, .int (nI c1)] hp) (fun hp => rV hp 75 1 (bI (mjF (d + 3) 29 [.ref 75, .int (nI c1)] hp) K)))) = K (-1) (mjW0 s3)) ∧ bdC E N q s0 j0 (os ++ y.2.2.2.1 ++ [oTwo E.1 c1]) s3) := by
  have hq' : q = 2 ∨ q = 30 := C.pq
  have hn := C.1.hn
  have xg : o58 s (tkGo s (c1 + 1)) := o58.go _ _
  have Cs : CE E N q s j0 (cs + l.length) := C.go A.2.2.2.2.2.2.1 A.2.2.2.1
  have C1 : CE E N q (tkGo s (c1 + 1)) (jE j0 t1 al1) (cs + l.length) := Cs.go xg.oe (by rw [xg.r (by omega)]; exact A.2.2.2.1)
  have A8 := A.2.2.2.2.2.2.2
  have t1l := A.2.1.lt hn
  have oe1 : oE q s0 (tkGo s (c1 + 1)) := A.2.2.2.2.2.2.1.tr xg.oe
  have ho' : isCmp (E.1 c1).1 = true ∨ isSum (E.1 c1).1 = true ∨ isPro (E.1 c1).1 = true := Or.inr ho
  have tn : ∀ {t2 : Nat}, tcd (E.1 c1).1 t1 t2 ↔ (t1 = 0 ∧ t2 = 0) := fun {t2} => tcd_n (by
    rcases ho with h | h
    · exact Or.inl h
    · exact Or.inr (Or.inl h))
  have G := ih (c1 + 1) kq (cs + l.length) (tkGo s (c1 + 1)) (jE j0 t1 al1) y (by omega) C1 (A.2.2.1.go _) hy y61 hK (hA.oE C.pq oe1) (by omega)
  rcases G with ⟨s2, t2, al2, l2, g1, g2, gN, _⟩ | ⟨s2, vv, g1, gv, g2, g3, g4⟩
  · have t2l := g2.2.1.lt hn
    have C2 := (C1.go g2.2.2.2.2.2.2.1 g2.2.2.2.1).1
    obtain ⟨s3, y1, y2, y3, y4⟩ := x_28 (d := d) C2 (GB.of g2.2.2.1 gN) (show c1 ≤ N by omega) t1l t2l
    by_cases hc : t1 = 0 ∧ t2 = 0
    · obtain ⟨s4, l4, w1, w2⟩ := twoG (d := d + 1) C A (by omega) xg g2 gN ho' (tn.mpr hc) hb
      refine Or.inl ⟨s4, l4, fun K => ?_, w2, gN⟩
      rw [g1, bI_s, xV_75, y1, bN_s, y3 hc, xV_75, w1, bI_s]
    · have B : BC E.1 N q E.2.1 E.2.2.1 s3 := by
        have := (C1.go g2.2.2.2.2.2.2.1 g2.2.2.2.1)
        exact this.bad (by have := g2.2.2.2.2.2.2.2; omega) y2 (y4 hc)
      obtain ⟨s4, w1, w2, w3⟩ := n_29 (d := d + 1) B (show c1 ≤ N by omega)
      refine Or.inr ⟨s4, fun K => ?_, ?_, w2, oe1.C.tr (g2.2.2.2.2.2.2.1.C.tr (y2.C.tr w3))⟩
      · rw [g1, bI_s, xV_75, y1, bN_s, xV_75, w1, bI_s]
      · rw [twoJ A g2.1, show oTwo E.1 c1 = (9, (E.1 c1).2.1, nbr (E.1 c1).1 0, 0, 0) from rfl, two_no _ _ (fun x => hc (tn.mp x))]
  · obtain ⟨s3, y1, y2, y3, y4⟩ := x_28 (d := d) g3.1 (GB.ob g3.2.1) (show c1 ≤ N by omega) t1l gv
    have B : BC E.1 N q E.2.1 E.2.2.1 s3 := g3.of58' y2 (by
      by_cases hc : t1 = 0 ∧ vv = 0
      · exact Or.inl (y3 hc)
      · exact Or.inr (y4 hc))
    obtain ⟨s4, w1, w2, w3⟩ := n_29 (d := d + 1) B (show c1 ≤ N by omega)
    refine Or.inr ⟨s4, fun K => ?_, twoN A g2, w2, oe1.C.tr (g4.tr (y2.C.tr w3))⟩
    rw [g1, bI_s, xV_75, y1, bN_s, xV_75, w1, bI_s]
theorem n_13l (B : BC E.1 N q E.2.1 E.2.2.1 s) (n : Nat) (a b : Int32) : L_13_7 (mjF (d + 2)) (n + 1) 75 a b (mjW0 s) = some (some (.int a), mjW0 s) := by
  have hT := B.1.1.1.1
  have k60 : s.1 60 N = 0 := by rw [(hT.2.2.2 N (Nat.le_refl N)).1, hT.2.2.1]
  rw [L13_S]
  unfold b_13_7 b_13_65
  rw [xg_75_0, xV_58, sz0 hT B.2.1.1 (Nat.le_refl N), bI_s, xg_75_0, xV_58, x_product (tk_b hT B.2.1), bI_s, k60, i01, if_neg (show ¬ ((0 : Int32) = 42 ∨ (0 : Int32) = 47 ∨ (0 : Int32) = 37) by decide), ite_self]
theorem n_12l (B : BC E.1 N q E.2.1 E.2.2.1 s) (n : Nat) (a b : Int32) : L_12_7 (mjF (d + 2)) (n + 1) 75 a b (mjW0 s) = some (some (.int a), mjW0 s) := by
  have hT := B.1.1.1.1
  have k60 : s.1 60 N = 0 := by rw [(hT.2.2.2 N (Nat.le_refl N)).1, hT.2.2.1]
  rw [L12_S]
  unfold b_12_7 b_12_65
  rw [xg_75_0, xV_58, sz0 hT B.2.1.1 (Nat.le_refl N), bI_s, xg_75_0, xV_58, x_sum (tk_b hT B.2.1), bI_s, k60, i01, if_neg (show ¬ ((0 : Int32) = 43 ∨ (0 : Int32) = 45) by decide), ite_self]
/-- the loop of codeProduct -/
theorem cp13 (ih : hE E N q (d + 3) 14 (prE E.1 (N + 1) w 3 o) P3) (C : CE E N q s0 j0 cs) (h61 : ¬ (E.1 y.1).1 = 61) (hK : KT E.2.2.2.1 kq y.2.2.1) (hA : AG s0 y.2.2.2.2) (hb : cs + (y.1 - c0) ≤ 3090) : ∀ (k n i : Nat) (z : PZ) (s : mjSt3) (t : Nat) (al : Bool) (l : List Ins), pLoop E.1 isPro (prE E.1 (N + 1) w 3 o) kq k z = .inr y → i + k = N + 1 → k < n → atC E N q s0 c0 cs j0 z.2.2.2.1 s z.1 t al l → z.1 ≤ N → (z.2.1 = 3 → l.length + c0 + 3 ≤ z.1) → gCo E N q s0 c0 cs j0 y.2.2.2.1 (L_13_7 (mjF (d + 3)) n 75 (tyI t) (nI i) (mjW0 s)) y.1 (P3 c0 y)
  | k, 0, i, z, s, t, al, l, h, hi, hk, A, hzN, hs => by omega
  | 0, n + 1, i, z, s, t, al, l, h, hi, hk, A, hzN, hs => by
    cases h
    have Cs : CE E N q s j0 (cs + l.length) := C.go A.2.2.2.2.2.2.1 A.2.2.2.1
    have hT := Cs.TH
    refine Or.inl ⟨s, t, al, l, ?_, A, hzN, hs⟩
    rw [L13_S]
    unfold b_13_7 b_13_65
    rw [xg_75_0, xV_58, sz0 hT A.2.2.1.1 hzN, bI_s, if_pos (show nI (N + 1) ≤ nI i by rw [show i = N + 1 by omega]; exact Int32.le_refl _)]
  | k + 1, n + 1, i, z, s, t, al, l, h, hi, hk, A, hzN, hs => by
    have hrd : ∀ c kq x, prE E.1 (N + 1) w 3 o c kq = .inr x → c < x.1 := fun c kq x hx => (prE_len (T := E.1) (M := N + 1) w 3 o c kq x (by omega) hx).1
    have Cs : CE E N q s j0 (cs + l.length) := C.go A.2.2.2.2.2.2.1 A.2.2.2.1
    have hT := Cs.TH
    have h0 := hT.2.2.1
    have hN := hT.2.1
    have f := A.2.2.1
    have pre : L_13_7 (mjF (d + 3)) (n + 1) 75 (tyI t) (nI i) (mjW0 s) = _ := L13_S _ _ _ _ _ _
    unfold b_13_7 b_13_65 at pre
    rw [xg_75_0, xV_58, sz0 hT f.1 hzN, bI_s, if_neg (show ¬ nI (N + 1) ≤ nI i from nI_ge (by omega) (by omega)), xg_75_0, xV_58, x_product (tk_f hT f hzN), bI_s, (hT.2.2.2 z.1 hzN).1, i01] at pre
    unfold pLoop at h
    by_cases g : isPro (E.1 z.1).1 = true
    · rw [if_pos g] at h
      have g' : (E.1 z.1).1 = 42 ∨ (E.1 z.1).1 = 47 ∨ (E.1 z.1).1 = 37 := by
        unfold isPro at g
        exact of_decide_eq_true g
      have zN : z.1 < N := by
        rcases g' with e | e | e
        · exact lt_z h0 hzN e (by decide)
        · exact lt_z h0 hzN e (by decide)
        · exact lt_z h0 hzN e (by decide)
      rw [if_pos g', xg_75_0, xV_58, j_now hT f.1 hzN, bI_s, xg_75_0, xV_58, j_skip hT f zN, bN_s, xV_75] at pre
      cases hd : prE E.1 (N + 1) w 3 o (z.1 + 1) (kq + z.2.2.1.length) with
      | inl x => rw [hd] at h; cases h
      | inr x =>
        rw [hd] at h
        dsimp only at h
        have zx := hrd _ _ _ hd
        have x61 : ¬ (E.1 x.1).1 = 61 := by
          intro e
          have := pLoop_end h e rfl
          rw [this] at h61
          exact h61 e
        obtain ⟨h1, pa, pb, pc, p1, p2, p3⟩ := pLoop_pre hrd k _ y h
        dsimp only at h1 p1 p2 p3
        have K1 := (KT.app (KT.app (show KT E.2.2.2.1 kq ((z.2.2.1 ++ x.2.2.1) ++ pa) from p1 ▸ hK)).1).2
        have G1 : AG s0 x.2.2.2.2 := (AG.app (AG.app (show AG s0 ((z.2.2.2.2 ++ x.2.2.2.2) ++ pc) from p3 ▸ hA)).1).2
        have S := stepC ih C A zN (Or.inr g) hd x61 (by omega) K1 G1 (by omega)
        rcases S with ⟨s3, l3, w1, w2, w3⟩ | ⟨s3, w1, w2⟩
        · rw [w1, nI_1] at pre
          rw [pre]
          exact cp13 ih C h61 hK hA hb k n (i + 1) _ s3 0 false l3 h (by omega) (by omega) w2 w3 (fun x => by cases x)
        · obtain ⟨n', rfl⟩ : ∃ n', n = n' + 1 := ⟨n - 1, by omega⟩
          rw [w1, n_13l (d := d + 1) w2.2.1] at pre
          refine Or.inr ⟨s3, 0, pre, by decide, ?_, w2.2⟩
          rw [p2]
          exact jrun_no w2.1
    · rw [if_neg g] at h
      cases h
      rw [if_neg (fun e => g (by unfold isPro; exact decide_eq_true e))] at pre
      exact Or.inl ⟨s, t, al, l, pre, A, hzN, hs⟩
theorem x_13 (ih : hE E N q (d + 3) 14 (prE E.1 (N + 1) w 3 o) P3) : hE E N q (d + 4) 13 (prE E.1 (N + 1) (w + 1) 2 o) P3 := by
  intro c kq cs s j z hc C f hz h61 hK hA hn
  have hT := C.TH
  have hrd : ∀ c kq x, prE E.1 (N + 1) w 3 o c kq = .inr x → c < x.1 := fun c kq x hx => (prE_len (T := E.1) (M := N + 1) w 3 o c kq x (by omega) hx).1
  have pre : mjF (d + 4) 13 [.ref 75] (mjW0 s) = _ := e_13 (d := d + 3)
  unfold f_13 b_13_0 at pre
  rw [xV_75] at pre
  rw [prE_2] at hz
  cases ha : prE E.1 (N + 1) w 3 o c kq with
  | inl x => rw [ha] at hz; cases hz
  | inr x =>
    rw [ha] at hz
    dsimp only at hz
    obtain ⟨h1, pa, pb, pc, p1, p2, p3⟩ := pLoop_pre hrd _ _ z hz
    have a61 : ¬ (E.1 x.1).1 = 61 := by
      intro g
      have := pLoop_end hz g rfl
      rw [this] at h61
      exact h61 g
    have hx := hrd _ _ _ ha
    have G := ih c kq cs s j x hc C f ha a61 ((KT.app (p1 ▸ hK)).1) ((AG.app (p3 ▸ hA)).1) (by omega)
    rcases G with ⟨s1, t, al, l, g1, g2, g3, g4⟩ | ⟨s1, vv, g1, g2, g3⟩
    · rw [g1, bI_s, show (0 : Int32) = nI 0 from rfl] at pre
      rw [pre]
      exact cp13 ih C h61 hK hA hn (N + 1) mjN 0 x s1 t al l hz (by omega) (by have := mjN_v; have := hT.2.1; omega) g2 g3 g4
    · rw [g1, bI_s, show mjN = 99999999 + 1 from rfl, n_13l (d := d + 1) g3.2.1] at pre
      refine Or.inr ⟨s1, vv, pre, g2, ?_, g3.2⟩
      rw [p2]
      exact jrun_no g3.1
/-- the loop of codeSum -/
theorem cp12 (ih : hE E N q (d + 3) 13 (prE E.1 (N + 1) w 2 o) P3) (C : CE E N q s0 j0 cs) (h61 : ¬ (E.1 y.1).1 = 61) (hK : KT E.2.2.2.1 kq y.2.2.1) (hA : AG s0 y.2.2.2.2) (hb : cs + (y.1 - c0) ≤ 3090) : ∀ (k n i : Nat) (z : PZ) (s : mjSt3) (t : Nat) (al : Bool) (l : List Ins), pLoop E.1 isSum (prE E.1 (N + 1) w 2 o) kq k z = .inr y → i + k = N + 1 → k < n → atC E N q s0 c0 cs j0 z.2.2.2.1 s z.1 t al l → z.1 ≤ N → (z.2.1 = 3 → l.length + c0 + 3 ≤ z.1) → gCo E N q s0 c0 cs j0 y.2.2.2.1 (L_12_7 (mjF (d + 3)) n 75 (tyI t) (nI i) (mjW0 s)) y.1 (P3 c0 y)
  | k, 0, i, z, s, t, al, l, h, hi, hk, A, hzN, hs => by omega
  | 0, n + 1, i, z, s, t, al, l, h, hi, hk, A, hzN, hs => by
    cases h
    have Cs : CE E N q s j0 (cs + l.length) := C.go A.2.2.2.2.2.2.1 A.2.2.2.1
    have hT := Cs.TH
    refine Or.inl ⟨s, t, al, l, ?_, A, hzN, hs⟩
    rw [L12_S]
    unfold b_12_7 b_12_65
    rw [xg_75_0, xV_58, sz0 hT A.2.2.1.1 hzN, bI_s, if_pos (show nI (N + 1) ≤ nI i by rw [show i = N + 1 by omega]; exact Int32.le_refl _)]
  | k + 1, n + 1, i, z, s, t, al, l, h, hi, hk, A, hzN, hs => by
    have hrd : ∀ c kq x, prE E.1 (N + 1) w 2 o c kq = .inr x → c < x.1 := fun c kq x hx => (prE_len (T := E.1) (M := N + 1) w 2 o c kq x (by omega) hx).1
    have Cs : CE E N q s j0 (cs + l.length) := C.go A.2.2.2.2.2.2.1 A.2.2.2.1
    have hT := Cs.TH
    have h0 := hT.2.2.1
    have hN := hT.2.1
    have f := A.2.2.1
    have pre : L_12_7 (mjF (d + 3)) (n + 1) 75 (tyI t) (nI i) (mjW0 s) = _ := L12_S _ _ _ _ _ _
    unfold b_12_7 b_12_65 at pre
    rw [xg_75_0, xV_58, sz0 hT f.1 hzN, bI_s, if_neg (show ¬ nI (N + 1) ≤ nI i from nI_ge (by omega) (by omega)), xg_75_0, xV_58, x_sum (tk_f hT f hzN), bI_s, (hT.2.2.2 z.1 hzN).1, i01] at pre
    unfold pLoop at h
    by_cases g : isSum (E.1 z.1).1 = true
    · rw [if_pos g] at h
      have g' : (E.1 z.1).1 = 43 ∨ (E.1 z.1).1 = 45 := by
        unfold isSum at g
        exact of_decide_eq_true g
      have zN : z.1 < N := by
        rcases g' with e | e
        · exact lt_z h0 hzN e (by decide)
        · exact lt_z h0 hzN e (by decide)
      rw [if_pos g', xg_75_0, xV_58, j_now hT f.1 hzN, bI_s, xg_75_0, xV_58, j_skip hT f zN, bN_s, xV_75] at pre
      cases hd : prE E.1 (N + 1) w 2 o (z.1 + 1) (kq + z.2.2.1.length) with
      | inl x => rw [hd] at h; cases h
      | inr x =>
        rw [hd] at h
        dsimp only at h
        have zx := hrd _ _ _ hd
        have x61 : ¬ (E.1 x.1).1 = 61 := by
          intro e
          have := pLoop_end h e rfl
          rw [this] at h61
          exact h61 e
        obtain ⟨h1, pa, pb, pc, p1, p2, p3⟩ := pLoop_pre hrd k _ y h
        dsimp only at h1 p1 p2 p3
        have K1 := (KT.app (KT.app (show KT E.2.2.2.1 kq ((z.2.2.1 ++ x.2.2.1) ++ pa) from p1 ▸ hK)).1).2
        have G1 : AG s0 x.2.2.2.2 := (AG.app (AG.app (show AG s0 ((z.2.2.2.2 ++ x.2.2.2.2) ++ pc) from p3 ▸ hA)).1).2
        have S := stepC ih C A zN (Or.inl g) hd x61 (by omega) K1 G1 (by omega)
        rcases S with ⟨s3, l3, w1, w2, w3⟩ | ⟨s3, w1, w2⟩
        · rw [w1, nI_1] at pre
          rw [pre]
          exact cp12 ih C h61 hK hA hb k n (i + 1) _ s3 0 false l3 h (by omega) (by omega) w2 w3 (fun x => by cases x)
        · obtain ⟨n', rfl⟩ : ∃ n', n = n' + 1 := ⟨n - 1, by omega⟩
          rw [w1, n_12l (d := d + 1) w2.2.1] at pre
          refine Or.inr ⟨s3, 0, pre, by decide, ?_, w2.2⟩
          rw [p2]
          exact jrun_no w2.1
    · rw [if_neg g] at h
      cases h
      rw [if_neg (fun e => g (by unfold isSum; exact decide_eq_true e))] at pre
      exact Or.inl ⟨s, t, al, l, pre, A, hzN, hs⟩
theorem x_12 (ih : hE E N q (d + 3) 13 (prE E.1 (N + 1) w 2 o) P3) : hE E N q (d + 4) 12 (prE E.1 (N + 1) (w + 1) 1 o) P3 := by
  intro c kq cs s j z hc C f hz h61 hK hA hn
  have hT := C.TH
  have hrd : ∀ c kq x, prE E.1 (N + 1) w 2 o c kq = .inr x → c < x.1 := fun c kq x hx => (prE_len (T := E.1) (M := N + 1) w 2 o c kq x (by omega) hx).1
  have pre : mjF (d + 4) 12 [.ref 75] (mjW0 s) = _ := e_12 (d := d + 3)
  unfold f_12 b_12_0 at pre
  rw [xV_75] at pre
  rw [prE_1] at hz
  cases ha : prE E.1 (N + 1) w 2 o c kq with
  | inl x => rw [ha] at hz; cases hz
  | inr x =>
    rw [ha] at hz
    dsimp only at hz
    obtain ⟨h1, pa, pb, pc, p1, p2, p3⟩ := pLoop_pre hrd _ _ z hz
    have a61 : ¬ (E.1 x.1).1 = 61 := by
      intro g
      have := pLoop_end hz g rfl
      rw [this] at h61
      exact h61 g
    have hx := hrd _ _ _ ha
    have G := ih c kq cs s j x hc C f ha a61 ((KT.app (p1 ▸ hK)).1) ((AG.app (p3 ▸ hA)).1) (by omega)
    rcases G with ⟨s1, t, al, l, g1, g2, g3, g4⟩ | ⟨s1, vv, g1, g2, g3⟩
    · rw [g1, bI_s, show (0 : Int32) = nI 0 from rfl] at pre
      rw [pre]
      exact cp12 ih C h61 hK hA hn (N + 1) mjN 0 x s1 t al l hz (by omega) (by have := mjN_v; have := hT.2.1; omega) g2 g3 g4
    · rw [g1, bI_s, show mjN = 99999999 + 1 from rfl, n_12l (d := d + 1) g3.2.1] at pre
      refine Or.inr ⟨s1, vv, pre, g2, ?_, g3.2⟩
      rw [p2]
      exact jrun_no g3.1
/-- codeUnit -/
theorem min_row (x : Int32) : jrow E (8, x, 0, 0, 0) (jE j0 t al) = if t = 0 then some (jE j0 t al, [(16, 0, x)]) else none := rfl
theorem x_14 (h15 : hE E N q (d + 2) 15 (prE E.1 (N + 1) w 4 o) P3) (h14 : ¬ o = 12 → hE E N q (d + 2) 14 (prE E.1 (N + 1) w 3 (o + 1)) P3) : hE E N q (d + 3) 14 (prE E.1 (N + 1) (w + 1) 3 o) P3 := by
  intro c kq cs s j z hc C f hz h61 hK hA hb
  have hT := C.TH
  have h0 := hT.2.2.1
  have hn := C.1.hn
  have hq' : q = 2 ∨ q = 30 := C.pq
  have pre : mjF (d + 3) 14 [.ref 75] (mjW0 s) = _ := e_14 (d := d + 2)
  unfold f_14 b_14_0 at pre
  rw [xg_75_0, xV_58, j_is hT f.1 hc, bI_s, i01] at pre
  rw [prE_3] at hz
  by_cases e45 : (E.1 c).1 = 45
  · rw [if_pos e45] at hz pre
    have cN := lt_z h0 hc e45 (by decide)
    by_cases o12 : o = 12
    · rw [if_pos o12] at hz; cases hz
    rw [if_neg o12] at hz
    cases ha : prE E.1 (N + 1) w 3 (o + 1) (c + 1) kq with
    | inl x => rw [ha] at hz; cases hz
    | inr x =>
      rw [ha] at hz
      cases hz
      dsimp only at hb hK hA h61
      have hx := (prE_len (T := E.1) (M := N + 1) w 3 (o + 1) (c + 1) kq x (by omega) ha).1
      have xg : o58 s (tkGo s (c + 1)) := o58.go _ _
      have C1 : CE E N q (tkGo s (c + 1)) j cs := C.go xg.oe (by rw [xg.r (by omega)]; exact C.2.2.2.2)
      have G := h14 o12 (c + 1) kq cs (tkGo s (c + 1)) j x (by omega) C1 (f.go _) ha h61 hK (hA.oE C.pq xg.oe) (by omega)
      rw [xg_75_0, xV_58, j_now hT f.1 hc, bI_s, xg_75_0, xV_58, j_skip hT f cN, bN_s, xV_75] at pre
      rcases G with ⟨s2, t2, al2, l2, g1, g2, gN, _⟩ | ⟨s2, vv, g1, gv, g2, g3, g4⟩
      · have C2 := C1.go g2.2.2.2.2.2.2.1 g2.2.2.2.1
        have g8 := g2.2.2.2.2.2.2.2
        obtain ⟨s3, y1, y2, y3, y4⟩ := x_27 (d := d) C2.1 (GB.of g2.2.2.1 gN) hc (g2.2.1.lt hn)
        rw [g1, bI_s, xV_75, y1, bN_s] at pre
        have mr := min_row (E := E) (j0 := j) (t := t2) (al := al2) (E.1 c).2.1
        by_cases t0 : t2 = 0
        · rw [if_pos t0] at mr
          rw [y3 t0] at pre
          obtain ⟨a1, a2, a3, a4, a5, a6, a7, a8⟩ := g2
          obtain ⟨s4, w1, w2, w3, w4, w5, w6⟩ := put1 (d := d + 1) C2 (by omega) 16 0 (E.1 c).2.1
          rw [xg_75_5, C2.1.2.2.2.2.2.2.2, xg_75_0, xV_58, j_place C2.TH a3.1 gN hc, bI_s, ycV C.pq, w1, bI_s] at pre
          refine Or.inl ⟨s4, 0, al2, l2 ++ [(16, 0, (E.1 c).2.1)], pre, ⟨?_, Or.inr (Or.inl rfl), ⟨by rw [w3]; exact a3.1, by rw [w3]; exact a3.2⟩, ?_, (a5.keep w6).app w5, CP.trn (CP.o58 C.pq xg) (CP.trn a6 (w6.mono (by omega))), xg.oe.tr (a7.tr w2), ?_⟩, gN, fun x => by cases x⟩
          · rw [jrun_app, a1]
            dsimp only
            rw [jrun_1, mr, t0]
          · rw [w4, List.length_append, List.length_singleton, Nat.add_assoc]
          · rw [List.length_append, List.length_singleton]
            show l2.length + 1 + c ≤ x.1
            omega
        · rw [if_neg t0] at mr
          have B : BC E.1 N q E.2.1 E.2.2.1 s3 := C2.bad (by omega) y2 (y4 t0)
          obtain ⟨s4, n', w1, w2, w3, w4, w5⟩ := n_emit (d := d + 1) B 16 0 (E.1 c).2.1
          rw [xg_75_5, B.1.2.2.2.2.2.2.2, xg_75_0, xV_58, j_place B.1.1.1.1 B.2.1.1 (Nat.le_refl N) hc, bI_s, ycV C.pq, w1, bI_s] at pre
          refine Or.inr ⟨s4, 0, pre, by decide, ?_, w3, xg.C.tr (g2.2.2.2.2.2.2.1.C.tr (y2.C.tr w4))⟩
          rw [jrun_app, g2.1]
          dsimp only
          rw [jrun_1, mr]
      · obtain ⟨s3, y1, y2, y3, y4⟩ := x_27 (d := d) g3.1 (GB.ob g3.2.1) hc gv
        have B : BC E.1 N q E.2.1 E.2.2.1 s3 := g3.of58' y2 (by
          by_cases h : vv = 0
          · exact Or.inl (y3 h)
          · exact Or.inr (y4 h))
        obtain ⟨s4, n', w1, w2, w3, w4, w5⟩ := n_emit (d := d + 1) B 16 0 (E.1 c).2.1
        rw [g1, bI_s, xV_75, y1, bN_s, xg_75_5, B.1.2.2.2.2.2.2.2, xg_75_0, xV_58, j_place B.1.1.1.1 B.2.1.1 (Nat.le_refl N) hc, bI_s, ycV C.pq, w1, bI_s] at pre
        exact Or.inr ⟨s4, 0, pre, by decide, jrun_no g2, w3, xg.C.tr (g4.tr (y2.C.tr w4))⟩
  · rw [if_neg e45] at hz pre
    have G := h15 c kq cs s j z hc C f hz h61 hK hA hb
    rw [xV_75] at pre
    rcases G with ⟨s2, t2, al2, l2, g1, g2⟩ | ⟨s2, vv, g1, g2⟩
    · rw [g1, bI_s] at pre
      exact Or.inl ⟨s2, t2, al2, l2, pre, g2⟩
    · rw [g1, bI_s] at pre
      exact Or.inr ⟨s2, vv, pre, g2⟩
end MJA33
