section
/-! ===== the law's loop by an invariant ===== -/
theorem bI_s {v : Int32} {hp : mjH} {k : Int32 → mjH → mjU} : bI (some (some (.int v), hp)) k = k v hp := rfl
theorem bN_s {hp : mjH} {k : mjH → mjU} : bN (some (none, hp)) k = k hp := rfl
theorem lp_S (R : mjR) (L : Nat) (xs : Nat → Int32) (n : Nat) (a b : Nat) (i : Int32) (hp : mjH) : L_900_18 R L xs (n + 1) a b i hp = b_900_18 R L xs (L_900_18 R L xs n) a b i hp := rfl
theorem lp_exit {L i : Nat} (hi : i ≤ 4000) (h : L < i + 6) : (Int32.ofNat L - (6 : Int32)) < nI i := by
  by_cases h6 : L < 6
  · refine Int32.lt_of_lt_of_le (b := 0) ?_ (nI_pos' (by omega))
    match L, h6 with
    | 0, _ => decide
    | 1, _ => decide
    | 2, _ => decide
    | 3, _ => decide
    | 4, _ => decide
    | 5, _ => decide
  · have e : Int32.ofNat L - (6 : Int32) = nI (L - 6) := pk_sub (a := L) (b := 6) (by omega)
    rw [e]
    exact nI_lt (by omega) (by omega)
theorem lp_in {L i : Nat} (hL : L ≤ 4000) (h : i + 6 ≤ L) : ¬ (Int32.ofNat L - (6 : Int32)) < nI i := by
  have e : Int32.ofNat L - (6 : Int32) = nI (L - 6) := pk_sub (a := L) (b := 6) (by omega)
  rw [e]
  exact nI_nlt (by omega) (by omega)
theorem mj_in_nI {n N : Nat} (h : n < N) (hN : N < 2 ^ 31) : mj_in (nI n) N = true := by
  have k := nI_in h hN
  unfold mj_in
  simpa using k
theorem lp_x {L i : Nat} {xs : Nat → Int32} {k : Int32 → mjU} (hL : L ≤ 4000) (h : i < L) : aX L xs (nI i) k = k (xs i) := by
  unfold aX
  rw [mj_in_nI h (by omega), nI_clamp (by omega)]
theorem lp_y {L i c : Nat} {xs : Nat → Int32} {k : Int32 → mjU} (hL : L ≤ 4000) (h : i + c < L) : aX L xs (nI i + nI c) k = k (xs (i + c)) := by
  rw [nI_add, lp_x hL h]
/-- one call on both: the same answer, and the invariant holds behind it -/
def PairOK (Inv : mjSt3 → Prop) (jc jm : Nat) (A : List Value) (s : mjSt3) : Prop := ∃ (r : Int32) (s1 s2 : mjSt3), mjF 1999 jc (.ref 0 :: A) (mjW0 s) = some (some (.int r), mjW0 s1) ∧ mjF 1999 jm (.ref 97 :: A) (mjW0 s1) = some (some (.int r), mjW0 s2) ∧ Inv s2
/-- one call on both returns, and the invariant holds behind it -/
def PairGo (Inv : mjSt3 → Prop) (jc jm : Nat) (A : List Value) (s : mjSt3) : Prop := ∃ (r r' : Int32) (s1 s2 : mjSt3), mjF 1999 jc (.ref 0 :: A) (mjW0 s) = some (some (.int r), mjW0 s1) ∧ mjF 1999 jm (.ref 97 :: A) (mjW0 s1) = some (some (.int r'), mjW0 s2) ∧ Inv s2
end
section
/-! ===== feed ===== -/
theorem lS_203 (R : mjR) (n : Nat) (a : Nat) (b c : Int32) (hp : mjH) : L_203_3 R (n + 1) a b c hp = b_203_3 R (L_203_3 R n) a b c hp := rfl
theorem lS_259 (R : mjR) (n : Nat) (a : Nat) (b c : Int32) (hp : mjH) : L_259_2 R (n + 1) a b c hp = b_259_2 R (L_259_2 R n) a b c hp := rfl
/-- one byte of an int -/
def bY (v sh : Int32) : Int32 := vp_nar .byte ((v >>> (sh &&& 31)).toInt8.toInt32)
/-- a byte laid on the tape of the object at h, whose row is at r -/
def laid (h r : Nat) (s s' : mjSt3) (t : Nat) (x : Int32) : Prop := s'.1 h = upd (s.1 h) 1 (nI (t + 1)) ∧ s'.1 r = upd (s.1 r) t x ∧ (∀ q, ¬ q = h → ¬ q = r → s'.1 q = s.1 q) ∧ s'.2 = s.2
theorem rt_203 {R : mjR} {n : Nat} {s : mjSt3} {v sh : Int32} {t : Nat} (ht : s.1 0 1 = nI t) (hl : t < 3000) (h1 : ¬ sh < 0) : ∃ s', L_203_3 R (n + 1) 0 v sh (mjW0 s) = L_203_3 R n 0 v (sh + (-8)) (mjW0 s') ∧ laid 0 1 s s' t (bY v sh) := by
  rw [lS_203]
  unfold b_203_3
  rw [if_neg h1, xg_0_1, ht, if_neg (show ¬ (3000 : Int32) ≤ nI t from nI_ge (b := 3000) hl (by decide)), xg_0_0, xg_0_1, ht, xs_1, if_pos (mj_in_nI hl (by decide)), xg_0_1, uI_ne _ _ _ _ (by decide), ht, xp_0_1, nI_clamp (by omega), uI_ne _ _ _ _ (by decide), nI_1]
  refine ⟨_, rfl, ?_, ?_, ?_, rfl⟩
  · rw [uI_same]
  · rw [uI_ne _ _ _ _ (by decide), uI_same]; rfl
  · intro q h0 hr
    rw [uI_ne _ _ _ _ h0, uI_ne _ _ _ _ hr]
theorem rt_259 {R : mjR} {n : Nat} {s : mjSt3} {v sh : Int32} {t : Nat} (ht : s.1 97 1 = nI t) (hl : t < 3000) (h1 : ¬ sh < 0) : ∃ s', L_259_2 R (n + 1) 97 v sh (mjW0 s) = L_259_2 R n 97 v (sh + (-1)) (mjW0 s') ∧ laid 97 98 s s' t (bY v (8 * sh)) := by
  rw [lS_259]
  unfold b_259_2
  rw [if_neg h1, xg_97_0, xg_97_1, ht, xs_98, if_pos (mj_in_nI hl (by decide)), xg_97_1, uI_ne _ _ _ _ (by decide), ht, xp_97_1, nI_clamp (by omega), uI_ne _ _ _ _ (by decide), nI_1]
  refine ⟨_, rfl, ?_, ?_, ?_, rfl⟩
  · rw [uI_same]
  · rw [uI_ne _ _ _ _ (by decide), uI_same]; rfl
  · intro q h0 hr
    rw [uI_ne _ _ _ _ h0, uI_ne _ _ _ _ hr]
/-- the bytes xs laid from t on -/
def laidL (h r : Nat) (s s' : mjSt3) (t : Nat) (xs : List Int32) : Prop := s'.1 h 1 = nI (t + xs.length) ∧ (∀ j, ¬ j = 1 → s'.1 h j = s.1 h j) ∧ (∀ i, s'.1 r i = if t ≤ i ∧ i < t + xs.length then xs.getD (i - t) 0 else s.1 r i) ∧ (∀ q, ¬ q = h → ¬ q = r → s'.1 q = s.1 q) ∧ s'.2 = s.2
theorem laidL.nil {h r : Nat} {s : mjSt3} {t : Nat} (ht : s.1 h 1 = nI t) : laidL h r s s t [] :=
  ⟨ht, fun _ _ => rfl, fun i => (if_neg (by simp only [List.length_nil]; omega)).symm, fun _ _ _ => rfl, rfl⟩
theorem laidL.snoc {h r : Nat} {s s1 s2 : mjSt3} {t : Nat} {xs : List Int32} {x : Int32} (hr : ¬ r = h) (a : laidL h r s s1 t xs) (b : laid h r s1 s2 (t + xs.length) x) : laidL h r s s2 t (xs ++ [x]) := by
  obtain ⟨a1, a2, a3, a4, a5⟩ := a
  obtain ⟨b1, b2, b3, b4⟩ := b
  refine ⟨?_, ?_, ?_, ?_, b4.trans a5⟩
  · rw [b1, List.length_append]
    exact if_pos rfl
  · intro j hj
    rw [b1, ← a2 j hj]
    exact if_neg hj
  · intro i
    rw [b2, List.length_append, List.length_singleton]
    unfold upd
    by_cases e : i = t + xs.length
    · subst e
      rw [if_pos rfl, if_pos (by omega), show t + xs.length - t = xs.length by omega]
      simp
    · rw [if_neg e, a3]
      by_cases g : t ≤ i ∧ i < t + xs.length
      · rw [if_pos g, if_pos (by omega), List.getD_eq_getElem?_getD, List.getD_eq_getElem?_getD, List.getElem?_append_left (by omega)]
      · rw [if_neg g, if_neg (by omega)]
  · intro q h0 h1
    rw [b3 q h0 h1, a4 q h0 h1]
theorem laidL.at1 {h r : Nat} {s s1 : mjSt3} {t : Nat} {xs : List Int32} (a : laidL h r s s1 t xs) : s1.1 h 1 = nI (t + xs.length) := a.1
theorem q4_203 {d : Nat} {s s1 : mjSt3} {t : Nat} {xs : List Int32} (v : Int32) (a : laidL 0 1 s s1 t xs) (hl : t + xs.length + 4 ≤ 3000) : ∃ s', mjF (d + 1) 203 [.ref 0, .int v] (mjW0 s1) = some (none, mjW0 s') ∧ laidL 0 1 s s' t (xs ++ [bY v 24] ++ [bY v 16] ++ [bY v 8] ++ [bY v 0]) := by
  rw [e_203]
  unfold f_203
  unfold b_203_0
  rw [show mjN = 99999995 + 1 + 1 + 1 + 1 + 1 from rfl]
  obtain ⟨s2, e1, l1⟩ := rt_203 (R := mjF d) (n := 99999995 + 1 + 1 + 1 + 1) (v := v) (sh := 24) a.1 (by omega) (by decide)
  have a1 := a.snoc (by decide) l1
  obtain ⟨s3, e2, l2⟩ := rt_203 (R := mjF d) (n := 99999995 + 1 + 1 + 1) (v := v) (sh := 24 + -8) a1.1 (by simp only [List.length_append, List.length_singleton]; omega) (by decide)
  have a2 := a1.snoc (by decide) l2
  obtain ⟨s4, e3, l3⟩ := rt_203 (R := mjF d) (n := 99999995 + 1 + 1) (v := v) (sh := 24 + -8 + -8) a2.1 (by simp only [List.length_append, List.length_singleton]; omega) (by decide)
  have a3 := a2.snoc (by decide) l3
  obtain ⟨s5, e4, l4⟩ := rt_203 (R := mjF d) (n := 99999995 + 1) (v := v) (sh := 24 + -8 + -8 + -8) a3.1 (by simp only [List.length_append, List.length_singleton]; omega) (by decide)
  have a4 := a3.snoc (by decide) l4
  refine ⟨s5, ?_, a4⟩
  rw [e1, e2, e3, e4, lS_203]
  unfold b_203_3
  rw [if_pos (by decide)]
theorem q4_259 {d : Nat} {s s1 : mjSt3} {t : Nat} {xs : List Int32} (v : Int32) (a : laidL 97 98 s s1 t xs) (hl : t + xs.length + 4 ≤ 3000) : ∃ s', mjF (d + 1) 259 [.ref 97, .int v] (mjW0 s1) = some (none, mjW0 s') ∧ laidL 97 98 s s' t (xs ++ [bY v 24] ++ [bY v 16] ++ [bY v 8] ++ [bY v 0]) := by
  rw [e_259]
  unfold f_259
  unfold b_259_0
  rw [show mjN = 99999995 + 1 + 1 + 1 + 1 + 1 from rfl]
  obtain ⟨s2, e1, l1⟩ := rt_259 (R := mjF d) (n := 99999995 + 1 + 1 + 1 + 1) (v := v) (sh := 3) a.1 (by omega) (by decide)
  have a1 := a.snoc (by decide) l1
  obtain ⟨s3, e2, l2⟩ := rt_259 (R := mjF d) (n := 99999995 + 1 + 1 + 1) (v := v) (sh := 3 + -1) a1.1 (by simp only [List.length_append, List.length_singleton]; omega) (by decide)
  have a2 := a1.snoc (by decide) l2
  obtain ⟨s4, e3, l3⟩ := rt_259 (R := mjF d) (n := 99999995 + 1 + 1) (v := v) (sh := 3 + -1 + -1) a2.1 (by simp only [List.length_append, List.length_singleton]; omega) (by decide)
  have a3 := a2.snoc (by decide) l3
  obtain ⟨s5, e4, l4⟩ := rt_259 (R := mjF d) (n := 99999995 + 1) (v := v) (sh := 3 + -1 + -1 + -1) a3.1 (by simp only [List.length_append, List.length_singleton]; omega) (by decide)
  have a4 := a3.snoc (by decide) l4
  refine ⟨s5, ?_, a4⟩
  rw [e1, e2, e3, e4, lS_259]
  unfold b_259_2
  rw [if_pos (by decide)]
/-- the twenty bytes of a feed -/
def b20 (a b c e f : Int32) : List Int32 := ([] : List Int32) ++ [bY a 24] ++ [bY a 16] ++ [bY a 8] ++ [bY a 0] ++ [bY b 24] ++ [bY b 16] ++ [bY b 8] ++ [bY b 0] ++ [bY c 24] ++ [bY c 16] ++ [bY c 8] ++ [bY c 0] ++ [bY e 24] ++ [bY e 16] ++ [bY e 8] ++ [bY e 0] ++ [bY f 24] ++ [bY f 16] ++ [bY f 8] ++ [bY f 0]
theorem b20_len (a b c e f : Int32) : (b20 a b c e f).length = 20 := by
  unfold b20
  simp only [List.length_append, List.length_singleton, List.length_nil]
theorem f_feedC {d : Nat} {s : mjSt3} {t : Nat} (ht : s.1 0 1 = nI t) (hl : t + 20 ≤ 3000) (a b c e f : Int32) : ∃ s', mjF (d + 2) 202 [.ref 0, .int a, .int b, .int c, .int e, .int f] (mjW0 s) = some (some (.int (nI (t + 20))), mjW0 s') ∧ laidL 0 1 s s' t (b20 a b c e f) := by
  rw [e_202]
  unfold f_202
  unfold b_202_0
  rw [xg_0_1, ht, show nI t + 20 = nI (t + 20) from nI_add t 20, if_pos (show nI (t + 20) ≤ (3000 : Int32) from nI_le (b := 3000) hl (by decide))]
  obtain ⟨s1, e1, l1⟩ := q4_203 (d := d) a (laidL.nil (r := 1) ht) (by simp only [List.length_nil]; omega)
  obtain ⟨s2, e2, l2⟩ := q4_203 (d := d) b l1 (by simp only [List.length_append, List.length_singleton, List.length_nil]; omega)
  obtain ⟨s3, e3, l3⟩ := q4_203 (d := d) c l2 (by simp only [List.length_append, List.length_singleton, List.length_nil]; omega)
  obtain ⟨s4, e4, l4⟩ := q4_203 (d := d) e l3 (by simp only [List.length_append, List.length_singleton, List.length_nil]; omega)
  obtain ⟨s5, e5, l5⟩ := q4_203 (d := d) f l4 (by simp only [List.length_append, List.length_singleton, List.length_nil]; omega)
  have l6 : laidL 0 1 s s5 t (b20 a b c e f) := by unfold b20; exact l5
  refine ⟨s5, ?_, l6⟩
  rw [xV_0, e1, bN_s, xV_0, e2, bN_s, xV_0, e3, bN_s, xV_0, e4, bN_s, xV_0, e5, bN_s, xg_0_1, l6.1, b20_len]
theorem f_feedM {d : Nat} {s : mjSt3} {t : Nat} (ht : s.1 97 1 = nI t) (hl : t + 20 ≤ 3000) (a b c e f : Int32) : ∃ s', mjF (d + 2) 258 [.ref 97, .int a, .int b, .int c, .int e, .int f] (mjW0 s) = some (some (.int (nI (t + 20))), mjW0 s') ∧ laidL 97 98 s s' t (b20 a b c e f) := by
  rw [e_258]
  unfold f_258
  unfold b_258_0
  rw [xg_97_1, ht, show nI t + 20 = nI (t + 20) from nI_add t 20, if_pos (show nI (t + 20) ≤ (3000 : Int32) from nI_le (b := 3000) hl (by decide))]
  obtain ⟨s1, e1, l1⟩ := q4_259 (d := d) a (laidL.nil (r := 98) ht) (by simp only [List.length_nil]; omega)
  obtain ⟨s2, e2, l2⟩ := q4_259 (d := d) b l1 (by simp only [List.length_append, List.length_singleton, List.length_nil]; omega)
  obtain ⟨s3, e3, l3⟩ := q4_259 (d := d) c l2 (by simp only [List.length_append, List.length_singleton, List.length_nil]; omega)
  obtain ⟨s4, e4, l4⟩ := q4_259 (d := d) e l3 (by simp only [List.length_append, List.length_singleton, List.length_nil]; omega)
  obtain ⟨s5, e5, l5⟩ := q4_259 (d := d) f l4 (by simp only [List.length_append, List.length_singleton, List.length_nil]; omega)
  have l6 : laidL 97 98 s s5 t (b20 a b c e f) := by unfold b20; exact l5
  refine ⟨s5, ?_, l6⟩
  rw [xV_97, e1, bN_s, xV_97, e2, bN_s, xV_97, e3, bN_s, xV_97, e4, bN_s, xV_97, e5, bN_s, xg_97_1, l6.1, b20_len]
/-- the two tapes are one -/
def I_tape (s : mjSt3) : Prop := ∃ t : Nat, t ≤ 3000 ∧ s.1 0 1 = nI t ∧ s.1 97 1 = nI t ∧ ∀ i, i < t → s.1 1 i = s.1 98 i
/-- all but the tapes is as it was -/
def offT (s s' : mjSt3) : Prop := (∀ q, ¬ q = 0 → ¬ q = 1 → ¬ q = 97 → ¬ q = 98 → s'.1 q = s.1 q) ∧ (∀ j, ¬ j = 1 → s'.1 0 j = s.1 0 j) ∧ (∀ j, ¬ j = 1 → s'.1 97 j = s.1 97 j) ∧ s'.2 = s.2
theorem offT.rf {s : mjSt3} : offT s s := ⟨fun _ _ _ _ _ => rfl, fun _ _ => rfl, fun _ _ => rfl, rfl⟩
theorem pair_feed {I2 : mjSt3 → Prop} (hst : ∀ s s', offT s s' → I2 s → I2 s') (s : mjSt3) (hs : I_tape s ∧ I2 s) (a b c e f : Int32) : PairOK (fun s => I_tape s ∧ I2 s) 202 258 [.int a, .int b, .int c, .int e, .int f] s := by
  obtain ⟨⟨t, h3, t1, t2, hx⟩, h2⟩ := hs
  by_cases hl : t + 20 ≤ 3000
  · obtain ⟨s1, e1, l1⟩ := f_feedC (d := 1997) t1 hl a b c e f
    have m1 : s1.1 97 = s.1 97 := l1.2.2.2.1 97 (by decide) (by decide)
    have m2 : s1.1 98 = s.1 98 := l1.2.2.2.1 98 (by decide) (by decide)
    obtain ⟨s2, e2, l2⟩ := f_feedM (d := 1997) (s := s1) (t := t) (by rw [m1]; exact t2) hl a b c e f
    have n0 : s2.1 0 = s1.1 0 := l2.2.2.2.1 0 (by decide) (by decide)
    have n1 : s2.1 1 = s1.1 1 := l2.2.2.2.1 1 (by decide) (by decide)
    refine ⟨_, s1, s2, e1, e2, ⟨t + 20, hl, ?_, (by rw [l2.1, b20_len]), ?_⟩, hst s s2 ⟨?_, ?_, ?_, ?_⟩ h2⟩
    · rw [n0, l1.1, b20_len]
    · intro i hi
      rw [n1, l1.2.2.1 i, l2.2.2.1 i, m2, b20_len]
      by_cases g : t ≤ i ∧ i < t + 20
      · rw [if_pos g, if_pos g]
      · rw [if_neg g, if_neg g]
        exact hx i (by omega)
    · intro q a0 a1 a2 a3
      rw [l2.2.2.2.1 q a2 a3, l1.2.2.2.1 q a0 a1]
    · intro j hj
      rw [n0]; exact l1.2.1 j hj
    · intro j hj
      rw [l2.2.1 j hj, m1]
    · exact l2.2.2.2.2.trans l1.2.2.2.2
  · refine ⟨-1, s, s, ?_, ?_, ⟨t, h3, t1, t2, hx⟩, h2⟩
    · rw [e_202 (d := 1998)]
      unfold f_202
      unfold b_202_0
      rw [xg_0_1, t1, show nI t + 20 = nI (t + 20) from nI_add t 20, if_neg (show ¬ nI (t + 20) ≤ (3000 : Int32) from nI_ge (a := 3000) (by omega) (by omega))]
    · rw [e_258 (d := 1998)]
      unfold f_258
      unfold b_258_0
      rw [xg_97_1, t2, show nI t + 20 = nI (t + 20) from nI_add t 20, if_neg (show ¬ nI (t + 20) ≤ (3000 : Int32) from nI_ge (a := 3000) (by omega) (by omega))]
end
section
/-! ===== calls that only look: fault, state, said ===== -/
theorem ite_ans (c : Prop) [Decidable c] (x y : Int32) (hp : mjH) : (if c then some (some (Value.int x), hp) else some (some (Value.int y), hp) : mjU) = some (some (.int (if c then x else y)), hp) := by
  by_cases h : c
  · rw [if_pos h, if_pos h]
  · rw [if_neg h, if_neg h]
def I_fault (s : mjSt3) : Prop := s.1 0 9 = s.1 97 59 ∧ s.1 0 10 = s.1 97 60
theorem pair_fault {Inv : mjSt3 → Prop} {s : mjSt3} (hs : Inv s) (h : I_fault s) (a : Int32) : PairOK Inv 206 336 [.int a] s := by
  refine ⟨if a = 0 then s.1 97 59 else if a = 1 then s.1 97 60 else -1, s, s, ?_, ?_, hs⟩
  · rw [e_206 (d := 1998)]
    unfold f_206
    unfold b_206_0
    simp only [xg_0_9, xg_0_10, h.1, h.2]
    repeat' split
    all_goals rfl
  · rw [e_336 (d := 1998)]
    unfold f_336
    unfold b_336_0
    simp only [xg_97_59, xg_97_60]
    repeat' split
    all_goals rfl
/-- the numbers that state() shows -/
def I_st (s : mjSt3) : Prop := s.1 82 8 = s.1 97 96 ∧ (s.1 82 8 = 0 → s.1 82 9 = 0 ∧ s.1 82 10 = 0 ∧ s.1 82 11 = -1 ∧ s.1 82 12 = 0 ∧ s.1 79 3 = 0 ∧ s.1 79 2 = 0 ∧ s.1 83 0 = 0 ∧ s.1 83 1 = 0 ∧ s.1 82 13 = 0) ∧ (¬ s.1 82 8 = 0 → s.1 82 9 = s.1 97 97 ∧ s.1 82 10 = s.1 97 98 ∧ s.1 82 11 = s.1 97 99 ∧ s.1 82 12 = s.1 97 100 ∧ s.1 79 3 = s.1 97 102 ∧ s.1 79 2 = s.1 97 103 ∧ s.1 83 0 = s.1 97 116 ∧ s.1 83 1 = s.1 97 105 ∧ s.1 82 13 = s.1 97 106)
theorem i_09 {a : Int32} (h0 : ¬ a < 0) (h9 : a ≤ 9) : a = 0 ∨ a = 1 ∨ a = 2 ∨ a = 3 ∨ a = 4 ∨ a = 5 ∨ a = 6 ∨ a = 7 ∨ a = 8 ∨ a = 9 := by
  obtain ⟨j, hj, rfl⟩ := nI_of2 (M := 9) (n := 9) rfl h0 h9
  match j, hj with
  | 0, _ => exact Or.inl rfl
  | 1, _ => exact Or.inr (Or.inl rfl)
  | 2, _ => exact Or.inr (Or.inr (Or.inl rfl))
  | 3, _ => exact Or.inr (Or.inr (Or.inr (Or.inl rfl)))
  | 4, _ => exact Or.inr (Or.inr (Or.inr (Or.inr (Or.inl rfl))))
  | 5, _ => exact Or.inr (Or.inr (Or.inr (Or.inr (Or.inr (Or.inl rfl)))))
  | 6, _ => exact Or.inr (Or.inr (Or.inr (Or.inr (Or.inr (Or.inr (Or.inl rfl))))))
  | 7, _ => exact Or.inr (Or.inr (Or.inr (Or.inr (Or.inr (Or.inr (Or.inr (Or.inl rfl)))))))
  | 8, _ => exact Or.inr (Or.inr (Or.inr (Or.inr (Or.inr (Or.inr (Or.inr (Or.inr (Or.inl rfl))))))))
  | 9, _ => exact Or.inr (Or.inr (Or.inr (Or.inr (Or.inr (Or.inr (Or.inr (Or.inr (Or.inr rfl))))))))
def stC (s : mjSt3) (a : Int32) : Int32 := if a = 0 then s.1 82 8 else if a = 1 then s.1 82 9 else if a = 2 then s.1 82 10 else if a = 3 then s.1 82 11 else if a = 4 then s.1 82 12 else if a = 5 then s.1 79 3 else if a = 6 then s.1 79 2 else if a = 7 then s.1 83 0 else if a = 8 then s.1 83 1 else if a = 9 then s.1 82 13 else -1
theorem f_stateC {d : Nat} {s : mjSt3} (a : Int32) : mjF (d + 1) 212 [.ref 0, .int a] (mjW0 s) = some (some (.int (stC s a)), mjW0 s) := by
  rw [e_212]
  unfold f_212
  unfold b_212_0 stC
  simp only [xg_0_12, xg_0_11, xg_82_8, xg_82_9, xg_82_10, xg_82_11, xg_82_12, xg_82_13, xg_82_1, xg_79_2, xg_79_3, xg_83_0, xg_83_1]
  simp only [ite_ans]
def stM (s : mjSt3) (a : Int32) : Int32 := if a < 0 then -1 else if a ≤ 9 then (if s.1 97 96 = 0 then (if a = 3 then -1 else 0) else if a = 0 then s.1 97 96 else if a = 1 then s.1 97 97 else if a = 2 then s.1 97 98 else if a = 3 then s.1 97 99 else if a = 4 then s.1 97 100 else if a = 5 then s.1 97 102 else if a = 6 then s.1 97 103 else if a = 7 then s.1 97 116 else if a = 8 then s.1 97 105 else s.1 97 106) else -1
theorem f_stateM {d : Nat} {s : mjSt3} (a : Int32) : mjF (d + 1) 341 [.ref 97, .int a] (mjW0 s) = some (some (.int (stM s a)), mjW0 s) := by
  rw [e_341]
  unfold f_341
  unfold b_341_0 b_341_10 stM
  simp only [xg_97_96, xg_97_97, xg_97_98, xg_97_99, xg_97_100, xg_97_102, xg_97_103, xg_97_116, xg_97_105, xg_97_106]
  simp only [ite_ans]
theorem st_same {s : mjSt3} (h : I_st s) (a : Int32) : stM s a = stC s a := by
  obtain ⟨h1, h2, h3⟩ := h
  unfold stM stC
  by_cases h0 : a < 0
  · have hn : ∀ c : Int32, ¬ c < 0 → ¬ a = c := fun c hc e => hc (e ▸ h0)
    rw [if_pos h0, if_neg (hn 0 (by decide)), if_neg (hn 1 (by decide)), if_neg (hn 2 (by decide)), if_neg (hn 3 (by decide)), if_neg (hn 4 (by decide)), if_neg (hn 5 (by decide)), if_neg (hn 6 (by decide)), if_neg (hn 7 (by decide)), if_neg (hn 8 (by decide)), if_neg (hn 9 (by decide))]
  rw [if_neg h0]
  by_cases h9 : a ≤ 9
  · rw [if_pos h9]
    by_cases hz : s.1 82 8 = 0
    · obtain ⟨a1, a2, a3, a4, a5, a6, a7, a8, a9⟩ := h2 hz
      rw [← h1, if_pos hz, hz, a1, a2, a3, a4, a5, a6, a7, a8, a9]
      rcases i_09 h0 h9 with e | e | e | e | e | e | e | e | e | e <;> rw [e] <;> decide
    · obtain ⟨a1, a2, a3, a4, a5, a6, a7, a8, a9⟩ := h3 hz
      rw [← h1, if_neg hz, a1, a2, a3, a4, a5, a6, a7, a8, a9]
      rcases i_09 h0 h9 with e | e | e | e | e | e | e | e | e | e <;> rw [e] <;> rfl
  · have hn : ∀ c : Int32, c ≤ 9 → ¬ a = c := fun c hc e => h9 (e ▸ hc)
    rw [if_neg h9, if_neg (hn 0 (by decide)), if_neg (hn 1 (by decide)), if_neg (hn 2 (by decide)), if_neg (hn 3 (by decide)), if_neg (hn 4 (by decide)), if_neg (hn 5 (by decide)), if_neg (hn 6 (by decide)), if_neg (hn 7 (by decide)), if_neg (hn 8 (by decide)), if_neg (hn 9 (by decide))]
theorem pair_state {Inv : mjSt3 → Prop} {s : mjSt3} (hs : Inv s) (h : I_st s) (a : Int32) : PairOK Inv 212 341 [.int a] s :=
  ⟨stC s a, s, s, f_stateC (d := 1998) a, (by rw [← st_same h a]; exact f_stateM (d := 1998) a), hs⟩
/-- what was said -/
def I_said (s : mjSt3) : Prop := ∀ k : Nat, k < 200 → nI k < s.1 82 13 → s.1 90 k = s.1 167 k
theorem pair_said {Inv : mjSt3 → Prop} {s : mjSt3} (hs : Inv s) (h : I_st s) (hd : I_said s) (a : Int32) : PairOK Inv 213 342 [.int a] s := by
  obtain ⟨h1, h2, h3⟩ := h
  by_cases h0 : a < 0
  · refine ⟨0, s, s, ?_, ?_, hs⟩
    · rw [e_213 (d := 1998)]
      unfold f_213
      unfold b_213_0
      rw [if_pos h0]; rfl
    · rw [e_342 (d := 1998)]
      unfold f_342
      unfold b_342_0
      rw [xg_97_96, if_pos h0]
      unfold b_342_26
      simp only [ite_self]
  by_cases h4 : (200 : Int32) ≤ a
  · refine ⟨0, s, s, ?_, ?_, hs⟩
    · rw [e_213 (d := 1998)]
      unfold f_213
      unfold b_213_0
      rw [if_neg h0, if_pos h4]; rfl
    · rw [e_342 (d := 1998)]
      unfold f_342
      unfold b_342_0
      rw [xg_97_96, if_neg h0, if_pos h4]
      unfold b_342_26
      simp only [ite_self]
  by_cases h5 : s.1 82 13 ≤ a
  · refine ⟨0, s, s, ?_, ?_, hs⟩
    · rw [e_213 (d := 1998)]
      unfold f_213
      unfold b_213_0
      rw [if_neg h0, if_neg h4, xg_0_12, xg_82_13, if_pos h5]; rfl
    · rw [e_342 (d := 1998)]
      unfold f_342
      unfold b_342_0
      rw [xg_97_96, if_neg h0, if_neg h4, xg_97_106]
      by_cases hz : s.1 82 8 = 0
      · rw [← h1, if_pos hz]; rfl
      · rw [← h1, if_neg hz, ← (h3 hz).2.2.2.2.2.2.2.2, if_neg (Int32.not_lt.mpr h5)]; rfl
  · have hz : ¬ s.1 82 8 = 0 := fun hz => h5 (by rw [(h2 hz).2.2.2.2.2.2.2.2]; exact Int32.not_lt.mp h0)
    have e6 : a < s.1 82 13 := Int32.not_le.mp h5
    obtain ⟨k, hk, rfl⟩ := nI_of h0
    have hk2 : k < 200 := by
      by_cases g : k < 200
      · exact g
      · exact absurd (show (200 : Int32) ≤ nI k from nI_le (a := 200) (by omega) hk) h4
    refine ⟨s.1 90 k, s, s, ?_, ?_, hs⟩
    · rw [e_213 (d := 1998)]
      unfold f_213
      unfold b_213_0
      rw [if_neg h0, if_neg h4, xg_0_12, xg_82_13, if_neg h5, xg_0_12, xg_82_14, xa_90, if_pos (mj_in_nI hk2 (by decide)), nI_clamp hk]
    · rw [e_342 (d := 1998)]
      unfold f_342
      unfold b_342_0
      rw [xg_97_96, if_neg h0, if_neg h4, xg_97_106, ← h1, if_neg hz, ← (h3 hz).2.2.2.2.2.2.2.2, if_pos e6, xg_97_107, xa_167, if_pos (mj_in_nI hk2 (by decide)), nI_clamp hk, hd k hk2 e6]
end
section
/-! ===== Arrays.fill as equations ===== -/
theorem uI_uI (s : mjSt3) (h : Nat) (f g : Nat → Int32) : uI (uI s h f) h g = uI s h g := by
  unfold uI
  refine Prod.ext (funext fun q => ?_) rfl
  by_cases e : q = h
  · simp only [if_pos e]
  · simp only [if_neg e]
theorem uI_self (s : mjSt3) (h : Nat) : uI s h (s.1 h) = s := by
  unfold uI
  refine Prod.ext (funext fun q => ?_) rfl
  by_cases e : q = h
  · subst e; exact if_pos rfl
  · exact if_neg e
theorem uL_uL (s : mjSt3) (h : Nat) (f g : Nat → Int64) : uL (uL s h f) h g = uL s h g := by
  unfold uL
  refine Prod.ext rfl (Prod.ext (funext fun q => ?_) rfl)
  by_cases e : q = h
  · simp only [if_pos e]
  · simp only [if_neg e]
theorem uL_self (s : mjSt3) (h : Nat) : uL s h (s.2.1 h) = s := by
  unfold uL
  refine Prod.ext rfl (Prod.ext (funext fun q => ?_) rfl)
  by_cases e : q = h
  · subst e; exact if_pos rfl
  · exact if_neg e
def fillG (f : Nat → Int64) (a b : Nat) (v : Int64) : Nat → Int64 := fun j => if a ≤ j ∧ j < b then v else f j
theorem fillG_nil (f : Nat → Int64) (n : Nat) (v : Int64) : fillG f n n v = f := by
  funext j
  exact if_neg (by omega)
theorem fillG_step (f : Nat → Int64) (i n : Nat) (v : Int64) (h : i < n) : fillG (vp_updL f i v) (i + 1) n v = fillG f i n v := by
  funext j
  unfold fillG vp_updL
  by_cases hj : j = i
  · subst hj
    rw [if_neg (by omega), if_pos rfl, if_pos (by omega)]
  · rw [if_neg hj]
    by_cases h2 : i + 1 ≤ j ∧ j < n
    · rw [if_pos h2, if_pos (by omega)]
    · rw [if_neg h2, if_neg (by omega)]
theorem lq_377 {R : mjR} {h N : Nat} {v : Int32} (hT : T_0[h]? = some (.inl (0, N, false))) (hN : N < 2 ^ 31) : ∀ (k i n : Nat) (s : mjSt3), i + k = N → k < n → L_377_5 R n h v (nI i) (nI N) (mjW0 s) = some (none, mjW0 (uI s h (fillF (s.1 h) i N v))) := by
  intro k
  induction k with
  | zero =>
    intro i n s hi hn
    obtain ⟨n, rfl⟩ : ∃ m, n = m + 1 := ⟨n - 1, by omega⟩
    have e : i = N := by omega
    subst e
    show b_377_5 R (L_377_5 R n) h v (nI i) (nI i) (mjW0 s) = _
    unfold b_377_5
    rw [if_pos (nI_le (Nat.le_refl i) hN), fillF_nil, uI_self]
  | succ k ih =>
    intro i n s hi hn
    obtain ⟨n, rfl⟩ : ∃ m, n = m + 1 := ⟨n - 1, by omega⟩
    show b_377_5 R (L_377_5 R n) h v (nI i) (nI N) (mjW0 s) = _
    unfold b_377_5
    rw [if_neg (nI_ge (by omega) hN), mjW0, ts_I hT, if_pos (mj_in_nI (by omega) hN), nI_clamp (by omega), nI_1]
    refine (ih (i + 1) n _ (by omega) (by omega)).trans ?_
    rw [uI_same, uI_uI, fillF_step _ _ _ _ (by omega)]
theorem q_377 {d h N : Nat} {v : Int32} {s : mjSt3} (hT : T_0[h]? = some (.inl (0, N, false))) (hN : N < 100000) : mjF (d + 1) 377 [.ref h, .int v] (mjW0 s) = some (none, mjW0 (uI s h (fillF (s.1 h) 0 N v))) := by
  rw [e_377]
  unfold f_377
  unfold b_377_0
  rw [mjW0, ta_N hT (by decide)]
  exact lq_377 hT (by omega) N 0 mjN s (by omega) (by unfold mjN; omega)
theorem lq_378 {R : mjR} {h N : Nat} {v : Int64} (hT : T_0[h]? = some (.inl (1, N, true))) (hN : N < 2 ^ 31) : ∀ (k i n : Nat) (s : mjSt3), i + k = N → k < n → L_378_6 R n h v (nI i) (nI N) (mjW0 s) = some (none, mjW0 (uL s h (fillG (s.2.1 h) i N v))) := by
  intro k
  induction k with
  | zero =>
    intro i n s hi hn
    obtain ⟨n, rfl⟩ : ∃ m, n = m + 1 := ⟨n - 1, by omega⟩
    have e : i = N := by omega
    subst e
    show b_378_6 R (L_378_6 R n) h v (nI i) (nI i) (mjW0 s) = _
    unfold b_378_6
    rw [if_pos (nI_le (Nat.le_refl i) hN), fillG_nil, uL_self]
  | succ k ih =>
    intro i n s hi hn
    obtain ⟨n, rfl⟩ : ∃ m, n = m + 1 := ⟨n - 1, by omega⟩
    show b_378_6 R (L_378_6 R n) h v (nI i) (nI N) (mjW0 s) = _
    unfold b_378_6
    rw [if_neg (nI_ge (by omega) hN), mjW0, ts_L hT, if_pos (mj_in_nI (by omega) hN), nI_clamp (by omega), nI_1]
    refine (ih (i + 1) n _ (by omega) (by omega)).trans ?_
    rw [uL_same, uL_uL, fillG_step _ _ _ _ (by omega)]
theorem q_378 {d h N : Nat} {v : Int64} {s : mjSt3} (hT : T_0[h]? = some (.inl (1, N, true))) (hN : N < 100000) : mjF (d + 1) 378 [.ref h, .long v] (mjW0 s) = some (none, mjW0 (uL s h (fillG (s.2.1 h) 0 N v))) := by
  rw [e_378]
  unfold f_378
  unfold b_378_0
  rw [mjW0, ta_N hT (by decide)]
  exact lq_378 hT (by omega) N 0 mjN s (by omega) (by unfold mjN; omega)
theorem lq_379 {R : mjR} {h N B : Nat} {v : Int32} (hT : T_0[h]? = some (.inl (0, N, false))) (hN : N < 2 ^ 31) (hB : B ≤ N) : ∀ (k i n : Nat) (s : mjSt3), i + k = B → k < n → L_379_10 R n h (nI B) v (nI i) (mjW0 s) = some (none, mjW0 (uI s h (fillF (s.1 h) i B v))) := by
  intro k
  induction k with
  | zero =>
    intro i n s hi hn
    obtain ⟨n, rfl⟩ : ∃ m, n = m + 1 := ⟨n - 1, by omega⟩
    have e : i = B := by omega
    subst e
    show b_379_10 R (L_379_10 R n) h (nI i) v (nI i) (mjW0 s) = _
    unfold b_379_10
    rw [if_pos (nI_le (Nat.le_refl i) (by omega)), fillF_nil, uI_self]
  | succ k ih =>
    intro i n s hi hn
    obtain ⟨n, rfl⟩ : ∃ m, n = m + 1 := ⟨n - 1, by omega⟩
    show b_379_10 R (L_379_10 R n) h (nI B) v (nI i) (mjW0 s) = _
    unfold b_379_10
    rw [if_neg (nI_ge (by omega) (by omega)), mjW0, ts_I hT, if_pos (mj_in_nI (by omega) hN), nI_clamp (by omega), nI_1]
    refine (ih (i + 1) n _ (by omega) (by omega)).trans ?_
    rw [uI_same, uI_uI, fillF_step _ _ _ _ (by omega)]
theorem q_379 {d h N A B : Nat} {v : Int32} {s : mjSt3} (hT : T_0[h]? = some (.inl (0, N, false))) (hN : N < 100000) (hA : A ≤ B) (hB : B ≤ N) : mjF (d + 2) 379 [.ref h, .int (nI A), .int (nI B), .int v] (mjW0 s) = some (none, mjW0 (uI s h (fillF (s.1 h) A B v))) := by
  rw [e_379]
  unfold f_379
  unfold b_379_0
  have e : mjF (d + 1) 380 [.int (Int32.ofNat N), .int (nI A), .int (nI B)] (mjW0 s) = some (none, mjW0 s) := by
    rw [e_380]
    unfold f_380
    unfold b_380_0
    rw [if_pos (nI_le hA (by omega)), if_pos (nI_pos' (by omega)), if_pos (show nI B ≤ Int32.ofNat N from nI_le hB (by omega))]
  rw [show aN (mjW0 s) h = aN (mjHT T_0 s) h from rfl, ta_N hT (by decide), e, bN_s]
  exact lq_379 hT (by omega) hB (B - A) A mjN s (by omega) (by unfold mjN; omega)
/-! Math -/
theorem q_max {d : Nat} {a b : Int32} {hp : mjH} : mjF (d + 1) 354 [.int a, .int b] hp = some (some (.int (if b ≤ a then a else b)), hp) := by
  rw [e_354]
  unfold f_354
  unfold b_354_0
  by_cases h : b ≤ a
  · simp only [if_pos h, if_neg (Int32.not_lt.mpr h)]
  · simp only [if_neg h, if_pos (Int32.not_le.mp h)]
theorem q_min {d : Nat} {a b : Int32} {hp : mjH} : mjF (d + 1) 355 [.int a, .int b] hp = some (some (.int (if a ≤ b then a else b)), hp) := by
  rw [e_355]
  unfold f_355
  unfold b_355_0
  by_cases h : a ≤ b
  · simp only [if_pos h, if_neg (Int32.not_lt.mpr h)]
  · simp only [if_neg h, if_pos (Int32.not_le.mp h)]
end
section
/-! ===== the TOKENS' own methods as equations ===== -/
/-- the cursor is at c of n tokens -/
def Tk (s : mjSt3) (c n : Nat) : Prop := s.1 58 6 = nI c ∧ s.1 58 5 = nI n ∧ c < n ∧ n ≤ 3001
def tkGo (s : mjSt3) (c : Nat) : mjSt3 := uI s 58 (upd (s.1 58) 6 (nI c))
theorem tkGo_i (s : mjSt3) (c q : Nat) (h : ¬ q = 58) : (tkGo s c).1 q = s.1 q := if_neg h
theorem tkGo_f (s : mjSt3) (c j : Nat) (h : ¬ j = 6) : (tkGo s c).1 58 j = s.1 58 j := by
  unfold tkGo
  rw [uI_same]
  exact if_neg h
theorem tkGo_c (s : mjSt3) (c : Nat) : (tkGo s c).1 58 6 = nI c := by
  unfold tkGo
  rw [uI_same]
  exact if_pos rfl
theorem tkGo_2 (s : mjSt3) (c : Nat) : (tkGo s c).2 = s.2 := rfl
theorem tkGo_tk {s : mjSt3} {c n c' : Nat} (h : Tk s c n) (h2 : c' < n) : Tk (tkGo s c') c' n :=
  ⟨tkGo_c s c', (tkGo_f s c' 5 (by decide)).trans h.2.1, h2, h.2.2.2⟩
section MJK
variable {d c n : Nat} {s : mjSt3}
theorem x_is (h : Tk s c n) (k : Int32) : mjF (d + 1) 164 [.ref 58, .int k] (mjW0 s) = some (some (.int (if s.1 60 c = k then 1 else 0)), mjW0 s) := by
  obtain ⟨h1, h2, h3, h4⟩ := h
  rw [e_164]
  unfold f_164
  unfold b_164_0
  rw [xg_58_1, xg_58_6, h1, xa_60, if_pos (mj_in_nI (by omega) (by decide)), nI_clamp (by omega), ite_ans]
theorem x_kindNow (h : Tk s c n) : mjF (d + 1) 173 [.ref 58] (mjW0 s) = some (some (.int (s.1 60 c)), mjW0 s) := by
  obtain ⟨h1, h2, h3, h4⟩ := h
  rw [e_173]
  unfold f_173
  unfold b_173_0
  rw [xg_58_1, xg_58_6, h1, xa_60, if_pos (mj_in_nI (by omega) (by decide)), nI_clamp (by omega)]
theorem x_now (h : Tk s c n) : mjF (d + 1) 167 [.ref 58] (mjW0 s) = some (some (.int (nI c)), mjW0 s) := by
  rw [e_167]
  unfold f_167
  unfold b_167_0
  rw [xg_58_6, h.1]
theorem x_size (h : Tk s c n) : mjF (d + 1) 171 [.ref 58] (mjW0 s) = some (some (.int (nI n)), mjW0 s) := by
  rw [e_171]
  unfold f_171
  unfold b_171_0
  rw [xg_58_5, h.2.1]
theorem x_fine : mjF (d + 1) 172 [.ref 58] (mjW0 s) = some (some (.int (if s.1 58 7 = 0 then 1 else 0)), mjW0 s) := by
  rw [e_172]
  unfold f_172
  unfold b_172_0
  rw [xg_58_7, ite_ans]
theorem x_kindAt (h : Tk s c n) {k : Nat} (hk : k < n) : mjF (d + 1) 180 [.ref 58, .int (nI k)] (mjW0 s) = some (some (.int (s.1 60 k)), mjW0 s) := by
  obtain ⟨h1, h2, h3, h4⟩ := h
  rw [e_180]
  unfold f_180
  unfold b_180_0
  rw [if_neg (nI_pos (by omega)), xg_58_5, h2, if_neg (nI_ge hk (by omega)), xg_58_1, xa_60, if_pos (mj_in_nI (by omega) (by decide)), nI_clamp (by omega)]
theorem x_kindOut (h : Tk s c n) {k : Nat} (hk : n ≤ k) (hl : k < 2 ^ 31) : mjF (d + 1) 180 [.ref 58, .int (nI k)] (mjW0 s) = some (some (.int 0), mjW0 s) := by
  obtain ⟨h1, h2, h3, h4⟩ := h
  rw [e_180]
  unfold f_180
  unfold b_180_0
  rw [if_neg (nI_pos hl), xg_58_5, h2, if_pos (nI_le hk hl)]
  rfl
theorem x_placeAt (h : Tk s c n) {k : Nat} (hk : k < n) : mjF (d + 1) 168 [.ref 58, .int (nI k)] (mjW0 s) = some (some (.int (s.1 61 k)), mjW0 s) := by
  obtain ⟨h1, h2, h3, h4⟩ := h
  rw [e_168]
  unfold f_168
  unfold b_168_0
  rw [if_neg (nI_pos (by omega)), xg_58_5, h2, if_neg (nI_ge hk (by omega)), xg_58_2, xa_61, if_pos (mj_in_nI (by omega) (by decide)), nI_clamp (by omega)]
theorem x_keyAt (h : Tk s c n) {k : Nat} (hk : k < n) : mjF (d + 1) 170 [.ref 58, .int (nI k)] (mjW0 s) = some (some (.long (s.2.1 62 k)), mjW0 s) := by
  obtain ⟨h1, h2, h3, h4⟩ := h
  rw [e_170]
  unfold f_170
  unfold b_170_0
  rw [if_neg (nI_pos (by omega)), xg_58_5, h2, if_neg (nI_ge hk (by omega)), xg_58_3, xa_62, if_pos (mj_in_nI (by omega) (by decide)), nI_clamp (by omega)]
theorem x_argsAt (h : Tk s c n) {k : Nat} (hk : k < n) : mjF (d + 1) 181 [.ref 58, .int (nI k)] (mjW0 s) = some (some (.int (s.1 63 k)), mjW0 s) := by
  obtain ⟨h1, h2, h3, h4⟩ := h
  rw [e_181]
  unfold f_181
  unfold b_181_0
  rw [if_neg (nI_pos (by omega)), xg_58_5, h2, if_neg (nI_ge hk (by omega)), xg_58_4, xa_63, if_pos (mj_in_nI (by omega) (by decide)), nI_clamp (by omega)]
theorem x_setArgs (h : Tk s c n) {k : Nat} (hk : k < n) (v : Int32) : mjF (d + 1) 174 [.ref 58, .int (nI k), .int v] (mjW0 s) = some (none, mjW0 (uI s 63 (upd (s.1 63) k v))) := by
  obtain ⟨h1, h2, h3, h4⟩ := h
  rw [e_174]
  unfold f_174
  unfold b_174_0
  rw [if_neg (nI_pos (by omega)), xg_58_5, h2, if_neg (nI_ge hk (by omega)), xg_58_4, xs_63, if_pos (mj_in_nI (by omega) (by decide)), nI_clamp (by omega)]
theorem x_skip (h : Tk s c n) : mjF (d + 1) 166 [.ref 58] (mjW0 s) = some (none, mjW0 (if c + 1 < n then tkGo s (c + 1) else s)) := by
  obtain ⟨h1, h2, h3, h4⟩ := h
  rw [e_166]
  unfold f_166
  unfold b_166_0
  rw [xg_58_6, xg_58_5, h1, h2, show nI n - (1 : Int32) = nI (n - 1) from pk_sub (a := n) (b := 1) (by omega)]
  by_cases g : c + 1 < n
  · rw [if_neg (nI_ge (by omega) (by omega)), if_pos g, xg_58_6, h1, xp_58_6, nI_1]
    rfl
  · rw [if_pos (nI_le (by omega) (by omega)), if_neg g]
theorem x_goTo (h : Tk s c n) {k : Nat} (hk : k < n) (hf : s.1 58 7 = 0) : mjF (d + 1) 179 [.ref 58, .int (nI k)] (mjW0 s) = some (none, mjW0 (tkGo s k)) := by
  obtain ⟨h1, h2, h3, h4⟩ := h
  rw [e_179]
  unfold f_179
  unfold b_179_0
  rw [xg_58_7, hf, if_pos rfl, if_neg (nI_pos (by omega)), xg_58_5, h2, if_neg (nI_ge hk (by omega)), xp_58_6]
  rfl
theorem x_goStay (t : Int32) (hf : ¬ s.1 58 7 = 0) : mjF (d + 1) 179 [.ref 58, .int t] (mjW0 s) = some (none, mjW0 s) := by
  rw [e_179]
  unfold f_179
  unfold b_179_0
  rw [xg_58_7, if_neg hf]
/-- a FAULT is met at token k, if none was met; the cursor goes to the end -/
def tkBad (s : mjSt3) (n : Nat) (f p : Int32) : mjSt3 := tkGo (if s.1 58 7 = 0 then uI (uI s 58 (upd (s.1 58) 7 f)) 58 (upd (upd (s.1 58) 7 f) 8 p) else s) (n - 1)
theorem x_refuse (h : Tk s c n) (k : Int32) : mjF (d + 1) 165 [.ref 58, .int k] (mjW0 s) = some (none, mjW0 (tkBad s n (if s.1 60 c = 1 then 1 else k) (s.1 61 c))) := by
  obtain ⟨h1, h2, h3, h4⟩ := h
  have fin : ∀ s' : mjSt3, s'.1 58 5 = nI n → b_165_42 (mjF d) 58 (mjW0 s') = some (none, mjW0 (tkGo s' (n - 1))) := by
    intro s' e
    unfold b_165_42
    rw [xg_58_5, e, show nI n - (1 : Int32) = nI (n - 1) from pk_sub (a := n) (b := 1) (by omega), xp_58_6]
    rfl
  have mid : ∀ f : Int32, b_165_26 (mjF d) 58 58 f (mjW0 s) = some (none, mjW0 (tkGo (uI (uI s 58 (upd (s.1 58) 7 f)) 58 (upd (upd (s.1 58) 7 f) 8 (s.1 61 c))) (n - 1))) := by
    intro f
    unfold b_165_26
    have e6 : (uI s 58 (upd (s.1 58) 7 f)).1 58 6 = nI c := by
      rw [uI_same]
      exact (if_neg (by decide)).trans h1
    rw [xp_58_7, xg_58_2, xg_58_6, e6, xa_61, if_pos (mj_in_nI (by omega) (by decide)), nI_clamp (by omega), uI_ne _ _ _ _ (by decide), xp_58_8, uI_same]
    refine fin _ ?_
    rw [uI_same]
    exact (if_neg (by decide)).trans ((if_neg (by decide)).trans h2)
  rw [e_165]
  unfold f_165
  unfold b_165_0
  rw [xg_58_7]
  unfold tkBad
  by_cases hf : s.1 58 7 = 0
  · rw [if_pos hf, if_pos hf, xg_58_1, xg_58_6, h1, xa_60, if_pos (mj_in_nI (by omega) (by decide)), nI_clamp (by omega)]
    by_cases hb : s.1 60 c = 1
    · rw [if_pos hb, if_pos hb]; exact mid 1
    · rw [if_neg hb, if_neg hb]; exact mid k
  · rw [if_neg hf, if_neg hf]
    exact fin s h2
theorem x_refuseAt (h : Tk s c n) {t : Nat} (ht : t < n) (k : Int32) : mjF (d + 1) 178 [.ref 58, .int k, .int (nI t)] (mjW0 s) = some (none, mjW0 (tkBad s n k (s.1 61 t))) := by
  obtain ⟨h1, h2, h3, h4⟩ := h
  have fin : ∀ s' : mjSt3, s'.1 58 5 = nI n → b_178_34 (mjF d) 58 (mjW0 s') = some (none, mjW0 (tkGo s' (n - 1))) := by
    intro s' e
    unfold b_178_34
    rw [xg_58_5, e, show nI n - (1 : Int32) = nI (n - 1) from pk_sub (a := n) (b := 1) (by omega), xp_58_6]
    rfl
  rw [e_178]
  unfold f_178
  unfold b_178_0
  rw [xg_58_7]
  unfold tkBad
  by_cases hf : s.1 58 7 = 0
  · rw [if_pos hf, if_pos hf, if_neg (nI_pos (by omega)), xg_58_5, h2, if_neg (nI_ge ht (by omega)), xp_58_7, xg_58_2, xa_61, if_pos (mj_in_nI (by omega) (by decide)), nI_clamp (by omega), uI_ne _ _ _ _ (by decide), xp_58_8, uI_same]
    refine fin _ ?_
    rw [uI_same]
    exact (if_neg (by decide)).trans ((if_neg (by decide)).trans h2)
  · rw [if_neg hf, if_neg hf]
    exact fin s h2
theorem x_need (h : Tk s c n) {k : Int32} (hk : s.1 60 c = k) (h0 : ¬ k = 0) : mjF (d + 1) 169 [.ref 58, .int k] (mjW0 s) = some (none, mjW0 (tkGo s (c + 1))) := by
  obtain ⟨h1, h2, h3, h4⟩ := h
  rw [e_169]
  unfold f_169
  unfold b_169_0
  rw [xg_58_1, xg_58_6, h1, xa_60, if_pos (mj_in_nI (by omega) (by decide)), nI_clamp (by omega), if_pos hk, if_neg h0, xg_58_6, h1, xp_58_6, nI_1]
  rfl
theorem x_needNot (h : Tk s c n) {k : Int32} (hk : ¬ s.1 60 c = k) : mjF (d + 2) 169 [.ref 58, .int k] (mjW0 s) = some (none, mjW0 (tkBad s n (if s.1 60 c = 1 then 1 else 2) (s.1 61 c))) := by
  have r := x_refuse (d := d) h 2
  obtain ⟨h1, h2, h3, h4⟩ := h
  rw [e_169]
  unfold f_169
  unfold b_169_0
  rw [xg_58_1, xg_58_6, h1, xa_60, if_pos (mj_in_nI (by omega) (by decide)), nI_clamp (by omega), if_neg hk]
  unfold b_169_30
  rw [xV_58, r, bN_s]
theorem i10 (b : Bool) : ((if b = true then (1 : Int32) else 0) = 0) = (b = false) := by cases b <;> simp
theorem x_sum (h : Tk s c n) : mjF (d + 2) 176 [.ref 58] (mjW0 s) = some (some (.int (if s.1 60 c = 43 ∨ s.1 60 c = 45 then 1 else 0)), mjW0 s) := by
  rw [e_176]
  unfold f_176
  unfold b_176_0 b_176_18
  rw [xV_58, x_is h, bI_s]
  by_cases a : s.1 60 c = 43
  · rw [if_pos a, if_neg (by decide), if_pos (Or.inl a)]
  · rw [if_neg a, if_pos rfl, xV_58, x_is h, bI_s]
    by_cases b : s.1 60 c = 45
    · rw [if_pos b, if_neg (by decide), if_pos (Or.inr b)]
    · rw [if_neg b, if_pos rfl, if_neg (fun e => e.elim a b)]
theorem x_product (h : Tk s c n) : mjF (d + 2) 175 [.ref 58] (mjW0 s) = some (some (.int (if s.1 60 c = 42 ∨ s.1 60 c = 47 ∨ s.1 60 c = 37 then 1 else 0)), mjW0 s) := by
  rw [e_175]
  unfold f_175
  unfold b_175_0 b_175_27
  rw [xV_58, x_is h, bI_s]
  by_cases a : s.1 60 c = 42
  · rw [if_pos a, if_neg (by decide), if_pos (Or.inl a)]
  · rw [if_neg a, if_pos rfl, xV_58, x_is h, bI_s]
    by_cases b : s.1 60 c = 47
    · rw [if_pos b, if_neg (by decide), if_pos (Or.inr (Or.inl b))]
    · rw [if_neg b, if_pos rfl, xV_58, x_is h, bI_s]
      by_cases e : s.1 60 c = 37
      · rw [if_pos e, if_neg (by decide), if_pos (Or.inr (Or.inr e))]
      · rw [if_neg e, if_pos rfl, if_neg (fun g => g.elim a (fun g => g.elim b e))]
theorem x_compare (h : Tk s c n) : mjF (d + 2) 177 [.ref 58] (mjW0 s) = some (some (.int (if s.1 60 c = 200 ∨ s.1 60 c = 201 ∨ s.1 60 c = 60 then 1 else 0)), mjW0 s) := by
  rw [e_177]
  unfold f_177
  unfold b_177_0 b_177_29
  rw [xV_58, x_is h, bI_s]
  by_cases a : s.1 60 c = 200
  · rw [if_pos a, if_neg (by decide), if_pos (Or.inl a)]
  · rw [if_neg a, if_pos rfl, xV_58, x_is h, bI_s]
    by_cases b : s.1 60 c = 201
    · rw [if_pos b, if_neg (by decide), if_pos (Or.inr (Or.inl b))]
    · rw [if_neg b, if_pos rfl, xV_58, x_is h, bI_s]
      by_cases e : s.1 60 c = 60
      · rw [if_pos e, if_neg (by decide), if_pos (Or.inr (Or.inr e))]
      · rw [if_neg e, if_pos rfl, if_neg (fun g => g.elim a (fun g => g.elim b e))]
end MJK
end
section
/-! ===== the class's lexer, piece by piece, as functions of the tape ===== -/
def isLb (b : Int32) : Bool := (!decide (b < 97) && decide (b ≤ 122)) || (!decide (b < 65) && !decide (90 < b))
def isDb (b : Int32) : Bool := !decide (b < 48) && !decide (57 < b)
theorem x_letter {d : Nat} {hp : mjH} (b : Int32) : mjF (d + 1) 157 [.int b] hp = some (some (.int (if isLb b = true then 1 else 0)), hp) := by
  rw [e_157]
  unfold f_157
  unfold b_157_0 b_157_12 b_157_24 b_157_28 isLb
  by_cases h1 : b < 97 <;> by_cases h2 : b ≤ 122 <;> by_cases h3 : b < 65 <;> by_cases h4 : 90 < b <;> simp [h1, h2, h3, h4]
theorem x_digit {d : Nat} {hp : mjH} (b : Int32) : mjF (d + 1) 159 [.int b] hp = some (some (.int (if isDb b = true then 1 else 0)), hp) := by
  rw [e_159]
  unfold f_159
  unfold b_159_0 b_159_16 isDb
  by_cases h1 : b < 48 <;> by_cases h2 : 57 < b <;> simp [h1, h2]
def cdC (b : Int32) : Int32 := if b < 97 then (if b < 65 then (b - 48) + 1 else (b - 65) + 11) else (b - 97) + 37
theorem x_spelled {d : Nat} {hp : mjH} (k : Int64) (b : Int32) : mjF (d + 1) 153 [.long k, .int b] hp = some (some (.long (k * 64 + (cdC b).toInt64)), hp) := by
  rw [e_153]
  unfold f_153
  unfold b_153_0 b_153_38 cdC
  by_cases h1 : b < 97
  · by_cases h2 : b < 65
    · simp only [if_pos h1, if_pos h2]
    · simp only [if_pos h1, if_neg h2]
  · simp only [if_neg h1]
/-- behind blanks and notes: k bytes are left, note: in a note -/
def skB (tx : Nat → Int32) : Nat → Bool → Nat → Nat
  | 0, _, i => i
  | k + 1, note, i => if tx i = 10 then skB tx k false (i + 1) else if tx i = 35 then skB tx k true (i + 1) else if note = true then skB tx k note (i + 1) else if tx i = 32 then skB tx k note (i + 1) else i
theorem skB_le (tx : Nat → Int32) : ∀ (k : Nat) (b : Bool) (i : Nat), i ≤ skB tx k b i ∧ skB tx k b i ≤ i + k
  | 0, _, i => ⟨Nat.le_refl _, Nat.le_refl _⟩
  | k + 1, b, i => by
    have r := fun b' => skB_le tx k b' (i + 1)
    unfold skB
    repeat' split
    · exact ⟨by have := (r false).1; omega, by have := (r false).2; omega⟩
    · exact ⟨by have := (r true).1; omega, by have := (r true).2; omega⟩
    · exact ⟨by have := (r b).1; omega, by have := (r b).2; omega⟩
    · exact ⟨by have := (r b).1; omega, by have := (r b).2; omega⟩
    · exact ⟨Nat.le_refl _, by omega⟩
def bit (b : Bool) : Int32 := if b = true then 1 else 0
theorem lq_155 {R : mjR} {n : Nat} {s : mjSt3} (hn : n ≤ 3000) : ∀ (k i q : Nat) (b : Bool), i + k = n → k < q → L_155_5 R q 1 (nI n) (bit b) (nI i) (mjW0 s) = some (some (.int (nI (skB (s.1 1) k b i))), mjW0 s) := by
  intro k
  induction k with
  | zero =>
    intro i q b hi hq
    obtain ⟨q, rfl⟩ : ∃ m, q = m + 1 := ⟨q - 1, by omega⟩
    have e : i = n := by omega
    subst e
    show b_155_5 R (L_155_5 R q) 1 (nI i) (bit b) (nI i) (mjW0 s) = _
    unfold b_155_5 skB
    rw [if_pos (nI_le (Nat.le_refl i) (by omega))]
  | succ k ih =>
    intro i q b hi hq
    obtain ⟨q, rfl⟩ : ∃ m, q = m + 1 := ⟨q - 1, by omega⟩
    show b_155_5 R (L_155_5 R q) 1 (nI n) (bit b) (nI i) (mjW0 s) = _
    unfold b_155_5 skB b_155_55
    rw [if_neg (nI_ge (by omega) (by omega)), xa_1, if_pos (mj_in_nI (by omega) (by decide)), nI_clamp (by omega), nI_1]
    by_cases h1 : s.1 1 i = 10
    · rw [if_pos h1, if_pos h1]
      exact ih (i + 1) q false (by omega) (by omega)
    · rw [if_neg h1, if_neg h1]
      by_cases h2 : s.1 1 i = 35
      · rw [if_pos h2, if_pos h2]
        exact ih (i + 1) q true (by omega) (by omega)
      · rw [if_neg h2, if_neg h2]
        cases b with
        | true =>
          rw [if_neg (show ¬ bit true = 0 by decide), if_pos rfl]
          exact ih (i + 1) q true (by omega) (by omega)
        | false =>
          rw [if_pos (show bit false = 0 by decide), if_neg (show ¬ (false = true) by decide)]
          by_cases h3 : s.1 1 i = 32
          · rw [if_pos h3, if_pos h3]
            exact ih (i + 1) q false (by omega) (by omega)
          · rw [if_neg h3, if_neg h3]
theorem x_blanks {d n i k : Nat} {s : mjSt3} (hn : n ≤ 3000) (hi : i + k = n) : mjF (d + 1) 155 [.ref 1, .int (nI i), .int (nI n)] (mjW0 s) = some (some (.int (nI (skB (s.1 1) k false i))), mjW0 s) := by
  rw [e_155]
  unfold f_155
  unfold b_155_0
  exact lq_155 hn k i mjN false hi (by unfold mjN; omega)
/-- a token is laid at the end of the rows -/
def tkPut (s : mjSt3) (n : Nat) (kd pl : Int32) (key : Int64) : mjSt3 := uI (uI (uL (uI (uI s 60 (upd (s.1 60) n kd)) 61 (upd (s.1 61) n pl)) 62 (vp_updL (s.2.1 62) n key)) 63 (upd (s.1 63) n 0)) 58 (upd (s.1 58) 5 (nI (n + 1)))
theorem x_put {d n : Nat} {s : mjSt3} (hc : s.1 58 5 = nI n) (hn : n < 3001) (kd pl : Int32) (key : Int64) : mjF (d + 1) 161 [.ref 58, .int kd, .int pl, .long key] (mjW0 s) = some (none, mjW0 (tkPut s n kd pl key)) := by
  have g : mj_in (nI n) 3001 = true := mj_in_nI hn (by decide)
  have c : (nI n).toNatClampNeg = n := nI_clamp (by omega)
  rw [e_161]
  unfold f_161
  unfold b_161_0
  have k3 : ¬ Int32.ofNat 3001 ≤ nI n := nI_ge hn (by decide)
  unfold tkPut
  simp only [xg_58_1, xg_58_2, xg_58_3, xg_58_4, xg_58_5, xN_60, xs_60, xs_61, xs_62, xs_63, xp_58_5, uI_ne, uL_i, uI_l, hc, g, c, if_neg k3, ↓reduceIte, not_false_eq_true, nI_1, Nat.reduceEqDiff]
end
section
/-! ===== scanning names and numbers ===== -/
/-- a name's letters and digits from i on, k bytes left: the key, the end -/
def scN (tx : Nat → Int32) : Nat → Int64 → Nat → Int64 × Nat
  | 0, key, i => (key, i)
  | k + 1, key, i => if isLb (tx i) = true then scN tx k (key * 64 + (cdC (tx i)).toInt64) (i + 1) else if isDb (tx i) = true then scN tx k (key * 64 + (cdC (tx i)).toInt64) (i + 1) else (key, i)
def scD (tx : Nat → Int32) : Nat → Int64 → Nat → Int64 × Nat
  | 0, v, i => (v, i)
  | k + 1, v, i => if isDb (tx i) = true then scD tx k (v * 10 + (tx i - 48).toInt64) (i + 1) else (v, i)
theorem scN_le (tx : Nat → Int32) : ∀ (k : Nat) (key : Int64) (i : Nat), i ≤ (scN tx k key i).2 ∧ (scN tx k key i).2 ≤ i + k
  | 0, _, i => ⟨Nat.le_refl _, Nat.le_refl _⟩
  | k + 1, key, i => by
    have r := scN_le tx k (key * 64 + (cdC (tx i)).toInt64) (i + 1)
    unfold scN
    repeat' split
    · exact ⟨by omega, by omega⟩
    · exact ⟨by omega, by omega⟩
    · exact ⟨Nat.le_refl _, by show i ≤ _; omega⟩
theorem scD_le (tx : Nat → Int32) : ∀ (k : Nat) (v : Int64) (i : Nat), i ≤ (scD tx k v i).2 ∧ (scD tx k v i).2 ≤ i + k
  | 0, _, i => ⟨Nat.le_refl _, Nat.le_refl _⟩
  | k + 1, v, i => by
    have r := scD_le tx k (v * 10 + (tx i - 48).toInt64) (i + 1)
    unfold scD
    split
    · exact ⟨by omega, by omega⟩
    · exact ⟨Nat.le_refl _, by show i ≤ _; omega⟩
theorem i1 {b : Bool} (h : b = true) : ¬ (if b = true then (1 : Int32) else 0) = 0 := by rw [if_pos h]; decide
theorem i0 {b : Bool} (h : ¬ b = true) : (if b = true then (1 : Int32) else 0) = 0 := by rw [if_neg h]
theorem lq_158 {d n fr : Nat} {s : mjSt3} (hn : n ≤ 3000) : ∀ (k i q : Nat) (key : Int64), i + k = n → k < q → L_158_6 (mjF (d + 1)) q 58 1 (nI fr) (nI n) key (nI i) (mjW0 s) = b_158_49 (mjF (d + 1)) 58 1 (nI fr) (scN (s.1 1) k key i).1 (nI (scN (s.1 1) k key i).2) (mjW0 s) := by
  intro k
  induction k with
  | zero =>
    intro i q key hi hq
    obtain ⟨q, rfl⟩ : ∃ m, q = m + 1 := ⟨q - 1, by omega⟩
    have e : i = n := by omega
    subst e
    show b_158_6 (mjF (d + 1)) (L_158_6 (mjF (d + 1)) q) 58 1 (nI fr) (nI i) key (nI i) (mjW0 s) = _
    unfold b_158_6
    rw [if_pos (nI_le (Nat.le_refl i) (by omega))]
    rfl
  | succ k ih =>
    intro i q key hi hq
    obtain ⟨q, rfl⟩ : ∃ m, q = m + 1 := ⟨q - 1, by omega⟩
    show b_158_6 (mjF (d + 1)) (L_158_6 (mjF (d + 1)) q) 58 1 (nI fr) (nI n) key (nI i) (mjW0 s) = _
    have g : mj_in (nI i) 3000 = true := mj_in_nI (by omega) (by decide)
    have c : (nI i).toNatClampNeg = i := nI_clamp (by omega)
    have goOn : b_158_32 (mjF (d + 1)) (L_158_6 (mjF (d + 1)) q) 58 1 (nI fr) (nI n) key (nI i) (mjW0 s) = b_158_49 (mjF (d + 1)) 58 1 (nI fr) (scN (s.1 1) k (key * 64 + (cdC (s.1 1 i)).toInt64) (i + 1)).1 (nI (scN (s.1 1) k (key * 64 + (cdC (s.1 1 i)).toInt64) (i + 1)).2) (mjW0 s) := by
      unfold b_158_32
      rw [xa_1, if_pos g, c, x_spelled, nI_1]
      exact ih (i + 1) q _ (by omega) (by omega)
    unfold b_158_6 scN
    rw [if_neg (nI_ge (by omega) (by omega)), xa_1, if_pos g, c, x_letter, bI_s]
    by_cases h1 : isLb (s.1 1 i) = true
    · rw [if_neg (i1 h1), if_pos h1]
      exact goOn
    · rw [if_pos (i0 h1), if_neg h1, xa_1, if_pos g, c, x_digit, bI_s]
      by_cases h2 : isDb (s.1 1 i) = true
      · rw [if_neg (i1 h2), if_pos h2]
        exact goOn
      · rw [if_pos (i0 h2), if_neg h2]
theorem lq_162 {d n fr : Nat} {s : mjSt3} (hn : n ≤ 3000) : ∀ (k i q : Nat) (v : Int64), i + k = n → k < q → L_162_6 (mjF (d + 1)) q 58 1 (nI fr) (nI n) v (nI i) (mjW0 s) = b_162_45 (mjF (d + 1)) 58 (nI fr) (scD (s.1 1) k v i).1 (nI (scD (s.1 1) k v i).2) (mjW0 s) := by
  intro k
  induction k with
  | zero =>
    intro i q v hi hq
    obtain ⟨q, rfl⟩ : ∃ m, q = m + 1 := ⟨q - 1, by omega⟩
    have e : i = n := by omega
    subst e
    show b_162_6 (mjF (d + 1)) (L_162_6 (mjF (d + 1)) q) 58 1 (nI fr) (nI i) v (nI i) (mjW0 s) = _
    unfold b_162_6
    rw [if_pos (nI_le (Nat.le_refl i) (by omega))]
    rfl
  | succ k ih =>
    intro i q v hi hq
    obtain ⟨q, rfl⟩ : ∃ m, q = m + 1 := ⟨q - 1, by omega⟩
    show b_162_6 (mjF (d + 1)) (L_162_6 (mjF (d + 1)) q) 58 1 (nI fr) (nI n) v (nI i) (mjW0 s) = _
    have g : mj_in (nI i) 3000 = true := mj_in_nI (by omega) (by decide)
    have c : (nI i).toNatClampNeg = i := nI_clamp (by omega)
    unfold b_162_6 scD
    rw [if_neg (nI_ge (by omega) (by omega)), xa_1, if_pos g, c, x_digit, bI_s]
    by_cases h2 : isDb (s.1 1 i) = true
    · rw [if_neg (i1 h2), if_pos h2, xa_1, if_pos g, c, nI_1]
      exact ih (i + 1) q _ (by omega) (by omega)
    · rw [if_pos (i0 h2), if_neg h2]
theorem sub_le {a b c : Nat} (h : b ≤ a) (ha : a < 2 ^ 31) (hc : c < 2 ^ 31) : (nI a - nI b ≤ nI c) = (a - b ≤ c) := by
  rw [pk_sub h]
  exact propext (nI_leI (by omega) hc)
/-- cutNumber: NONE, or the end and a token more -/
theorem x_number {d n fr k m : Nat} {s : mjSt3} (hn : n ≤ 3000) (hk : fr + k = n) (hc : s.1 58 5 = nI m) (hm : m < 3001) : mjF (d + 2) 162 [.ref 58, .ref 1, .int (nI fr), .int (nI n)] (mjW0 s) = if (scD (s.1 1) k 0 fr).2 - fr ≤ 9 then some (some (.int (nI (scD (s.1 1) k 0 fr).2)), mjW0 (tkPut s m 4 (nI fr) (scD (s.1 1) k 0 fr).1)) else some (some (.int (-1)), mjW0 s) := by
  have r := scD_le (s.1 1) k 0 fr
  rw [e_162]
  unfold f_162
  unfold b_162_0
  rw [lq_162 hn k fr mjN 0 hk (by unfold mjN; omega)]
  unfold b_162_45
  by_cases g : (scD (s.1 1) k 0 fr).2 - fr ≤ 9
  · rw [if_pos (show nI (scD (s.1 1) k 0 fr).2 - nI fr ≤ (9 : Int32) from (sub_le (c := 9) r.1 (by omega) (by decide)).mpr g), if_pos g, xV_58, x_put hc hm, bN_s]
  · rw [if_neg (show ¬ nI (scD (s.1 1) k 0 fr).2 - nI fr ≤ (9 : Int32) from fun e => g ((sub_le (c := 9) r.1 (by omega) (by decide)).mp e)), if_neg g]
end
section
/-! ===== words, names, signs: one token cut ===== -/
/-- the number of the WORD, from word i on, k left; 3: a NAME -/
def wdF (w : Nat → Int64) (key : Int64) : Nat → Nat → Int32
  | 0, _ => 3
  | k + 1, i => if w i = key then 5 + nI i else wdF w key k (i + 1)
theorem lq_160 {d : Nat} {s : mjSt3} (key : Int64) : ∀ (k i q : Nat), i + k = 16 → k < q → L_160_2 (mjF d) q 58 key (nI i) (mjW0 s) = some (some (.int (wdF (s.2.1 59) key k i)), mjW0 s) := by
  intro k
  induction k with
  | zero =>
    intro i q hi hq
    obtain ⟨q, rfl⟩ : ∃ m, q = m + 1 := ⟨q - 1, by omega⟩
    have e : i = 16 := by omega
    subst e
    rfl
  | succ k ih =>
    intro i q hi hq
    obtain ⟨q, rfl⟩ : ∃ m, q = m + 1 := ⟨q - 1, by omega⟩
    show b_160_2 (mjF d) (L_160_2 (mjF d) q) 58 key (nI i) (mjW0 s) = _
    unfold b_160_2 wdF
    rw [if_neg (show ¬ (16 : Int32) ≤ nI i from nI_ge (b := 16) (by omega) (by decide)), xg_58_0, xa_59, if_pos (mj_in_nI (by omega) (by decide)), nI_clamp (by omega), nI_1]
    by_cases h : s.2.1 59 i = key
    · rw [if_pos ((lg_cmp_eq _ _).mpr h), if_pos h]
    · rw [if_neg (fun e => h ((lg_cmp_eq _ _).mp e)), if_neg h]
      exact ih (i + 1) q (by omega) (by omega)
theorem x_word {d : Nat} {s : mjSt3} (key : Int64) : mjF (d + 1) 160 [.ref 58, .long key] (mjW0 s) = some (some (.int (wdF (s.2.1 59) key 16 0)), mjW0 s) := by
  rw [e_160]
  unfold f_160
  unfold b_160_0
  exact lq_160 key 16 0 mjN (by omega) (by unfold mjN; omega)
/-- cutName: NONE, or the end and a token more -/
theorem x_name {d n fr k m : Nat} {s : mjSt3} (hn : n ≤ 3000) (hk : fr + k = n) (hf : fr < n) (hc : s.1 58 5 = nI m) (hm : m < 3001) : mjF (d + 2) 158 [.ref 58, .ref 1, .int (nI fr), .int (nI n)] (mjW0 s) = if (scN (s.1 1) k 0 fr).2 - fr ≤ 10 then some (some (.int (nI (scN (s.1 1) k 0 fr).2)), mjW0 (tkPut s m (if 90 < s.1 1 fr then wdF (s.2.1 59) (scN (s.1 1) k 0 fr).1 16 0 else 2) (nI fr) (scN (s.1 1) k 0 fr).1)) else some (some (.int (-1)), mjW0 s) := by
  have r := scN_le (s.1 1) k 0 fr
  rw [e_158]
  unfold f_158
  unfold b_158_0
  rw [lq_158 hn k fr mjN 0 hk (by unfold mjN; omega)]
  unfold b_158_49 b_158_79
  by_cases g : (scN (s.1 1) k 0 fr).2 - fr ≤ 10
  · rw [if_pos (show nI (scN (s.1 1) k 0 fr).2 - nI fr ≤ (10 : Int32) from (sub_le (c := 10) r.1 (by omega) (by decide)).mpr g), if_pos g, xa_1, if_pos (mj_in_nI (by omega) (by decide)), nI_clamp (by omega)]
    by_cases h : (90 : Int32) < s.1 1 fr
    · rw [if_pos h, if_pos h, xV_58, x_word, bI_s, xV_58, x_put hc hm, bN_s]
    · rw [if_neg h, if_neg h, xV_58, x_put hc hm, bN_s]
  · rw [if_neg (show ¬ nI (scN (s.1 1) k 0 fr).2 - nI fr ≤ (10 : Int32) from fun e => g ((sub_le (c := 10) r.1 (by omega) (by decide)).mp e)), if_neg g]
/-- the SIGNS' bytes -/
def SG (i : Nat) : Int32 := (mjKb.getD 1 []).getD i 0
theorem xa_sg {s : mjSt3} {i : Int32} {k : Int32 → mjU} : aB (mjW0 s) 1000003 i k = if mj_in i 16 = true then k (SG i.toNatClampNeg) else none := by
  unfold aB
  rw [show (mjW0 s)[(1000003 : Nat)]? = none by rw [mjW0, mjHT_get]; rfl]
  dsimp only
  rw [show mjKa 1000003 = some 1 from rfl]
  dsimp only
  rw [show mjKl.getD 1 0 = 16 from rfl]
  cases mj_in i 16 <;> rfl
theorem xN_sg {s : mjSt3} {k : Int32 → mjU} : aN (mjW0 s) 1000003 k = k 16 := by
  unfold aN
  rw [show (mjW0 s)[(1000003 : Nat)]? = none by rw [mjW0, mjHT_get]; rfl]
  rfl
def ixF (c : Int32) : Nat → Nat → Int32
  | 0, _ => -1
  | k + 1, i => if SG i = c then nI i else ixF c k (i + 1)
theorem lq_367 {d : Nat} {s : mjSt3} (c : Int32) : ∀ (k i q : Nat), i + k = 16 → k < q → L_367_7 (mjF d) q 1000003 16 c (nI i) (mjW0 s) = some (some (.int (ixF c k i)), mjW0 s) := by
  intro k
  induction k with
  | zero =>
    intro i q hi hq
    obtain ⟨q, rfl⟩ : ∃ m, q = m + 1 := ⟨q - 1, by omega⟩
    have e : i = 16 := by omega
    subst e
    rfl
  | succ k ih =>
    intro i q hi hq
    obtain ⟨q, rfl⟩ : ∃ m, q = m + 1 := ⟨q - 1, by omega⟩
    show b_367_7 (mjF d) (L_367_7 (mjF d) q) 1000003 16 c (nI i) (mjW0 s) = _
    unfold b_367_7 ixF
    rw [if_neg (show ¬ (16 : Int32) ≤ nI i from nI_ge (b := 16) (by omega) (by decide)), xa_sg, if_pos (mj_in_nI (by omega) (by decide)), nI_clamp (by omega), nI_1]
    by_cases h : SG i = c
    · rw [if_pos h, if_pos h]
    · rw [if_neg h, if_neg h]
      exact ih (i + 1) q (by omega) (by omega)
theorem x_367 {d : Nat} {s : mjSt3} (c : Int32) : mjF (d + 1) 367 [.ref 1000003, .int c, .int 0, .int 16] (mjW0 s) = some (some (.int (ixF c.toInt8.toInt32 16 0)), mjW0 s) := by
  rw [e_367]
  unfold f_367
  unfold b_367_0
  exact lq_367 _ 16 0 mjN (by omega) (by unfold mjN; omega)
theorem x_365 {d : Nat} {s : mjSt3} (c : Int32) (h0 : ¬ c < 0) (h1 : ¬ 255 < c) : mjF (d + 2) 365 [.ref 1000003, .int c, .int 0, .int 16] (mjW0 s) = some (some (.int (ixF c.toInt8.toInt32 16 0)), mjW0 s) := by
  have e6 : mjF (d + 1) 366 [.int c] (mjW0 s) = some (some (.int 1), mjW0 s) := by
    rw [e_366]
    unfold f_366
    unfold b_366_0
    rw [if_neg h0, if_neg h1]
  rw [e_365]
  unfold f_365
  unfold b_365_0
  rw [e6, bI_s, if_neg (by decide), q_max, bI_s, xN_sg, q_min, bI_s]
  have a1 : (if (0 : Int32) ≤ 0 then (0 : Int32) else 0) = 0 := by decide
  have a2 : (if (16 : Int32) ≤ 16 then (16 : Int32) else 16) = 16 := by decide
  rw [a1, a2, if_pos (by decide), x_367, bI_s]
theorem x_indexOf {d : Nat} {s : mjSt3} (c : Int32) (h0 : ¬ c < 0) (h1 : ¬ 255 < c) : mjF (d + 4) 361 [.ref 1000002, .int c] (mjW0 s) = some (some (.int (ixF c.toInt8.toInt32 16 0)), mjW0 s) := by
  have e1 : ∀ d : Nat, mjF (d + 1) 359 [.ref 1000002] (mjW0 s) = some (some (.int 1), mjW0 s) := fun d => rfl
  have e2 : mjF (d + 2) 356 [.ref 1000002] (mjW0 s) = some (some (.int 16), mjW0 s) := by
    rw [e_356]
    unfold f_356
    unfold b_356_0
    rw [show ∀ k : Nat → mjU, gSv 1000002 k = k 1000003 from fun k => rfl, xN_sg]
    rfl
  have e3 : mjF (d + 3) 362 [.ref 1000002, .int c, .int 0] (mjW0 s) = some (some (.int (ixF c.toInt8.toInt32 16 0)), mjW0 s) := by
    rw [e_362]
    unfold f_362
    unfold b_362_0
    have rs : ∀ u : mjU, rS 1000002 u = u := fun u => rfl
    rw [rs, e1, bI_s, if_neg (by decide), show ∀ k : Nat → mjU, gSv 1000002 k = k 1000003 from fun k => rfl, rs, e2, bI_s, x_365 c h0 h1, bI_s]
  rw [e_361]
  unfold f_361
  unfold b_361_0
  have rs : ∀ u : mjU, rS 1000002 u = u := fun u => rfl
  rw [rs, e3, bI_s]
end
section
/-! ===== one token ===== -/
theorem by_chk : (List.range 128).all (fun j => decide (((nI j).toUInt32 % 65536).toInt32 = nI j) && decide ((nI j).toInt8.toInt32 = nI j) && decide (¬ (nI j < 0)) && decide (¬ 255 < nI j)) = true := by decide +kernel
theorem by_nI {b : Int32} (h0 : ¬ b ≤ 0) (h1 : b ≤ 127) : (b.toUInt32 % 65536).toInt32 = b ∧ b.toInt8.toInt32 = b ∧ ¬ b < 0 ∧ ¬ 255 < b := by
  obtain ⟨j, hj, rfl⟩ := nI_of2 (M := 127) (n := 127) rfl (fun e => h0 (Int32.le_of_lt e)) h1
  have k := List.all_eq_true.mp by_chk j (List.mem_range.mpr (by omega))
  simp only [Bool.and_eq_true, decide_eq_true_eq] at k
  exact ⟨k.1.1.1, k.1.1.2, k.1.2, k.2⟩
/-- a sign's token: its kind (0: none), its end -/
def sgT (tx : Nat → Int32) (n fr : Nat) : Int32 × Nat :=
  if fr + 1 < n ∧ tx (fr + 1) = 61 ∧ (tx fr = 61 ∨ tx fr = 33) then (if tx fr = 61 then 200 else 201, fr + 2)
  else if tx fr ≤ 0 ∨ ¬ 0 ≤ ixF (tx fr) 16 0 then (0, n) else (tx fr, fr + 1)
theorem x_sgOne {d n fr m : Nat} {s : mjSt3} (hn : n ≤ 3000) (hf : fr < n) (hc : s.1 58 5 = nI m) (hm : m < 3001) (hb : s.1 1 fr ≤ 127) : b_163_74 (mjF (d + 4)) 58 (nI fr) (s.1 1 fr) (mjW0 s) = if s.1 1 fr ≤ 0 ∨ ¬ 0 ≤ ixF (s.1 1 fr) 16 0 then some (some (.int (-1)), mjW0 s) else some (some (.int (nI (fr + 1))), mjW0 (tkPut s m (s.1 1 fr) (nI fr) 0)) := by
  unfold b_163_74 b_163_90
  by_cases h0 : s.1 1 fr ≤ 0
  · rw [if_pos h0, if_pos (Or.inl h0)]
  · obtain ⟨a1, a2, a3, a4⟩ := by_nI h0 hb
    rw [if_neg h0, show ∀ u : mjU, rS 1000002 u = u from fun u => rfl, a1, x_indexOf _ a3 a4, a2, bI_s]
    by_cases g : 0 ≤ ixF (s.1 1 fr) 16 0
    · rw [if_pos g, if_neg (fun e => e.elim h0 (fun e => e g)), xV_58, x_put hc hm, bN_s, nI_1]
    · rw [if_neg g, if_pos (Or.inr g)]
theorem x_sign {d n fr m : Nat} {s : mjSt3} (hn : n ≤ 3000) (hf : fr < n) (hc : s.1 58 5 = nI m) (hm : m < 3001) (hb : s.1 1 fr ≤ 127) : mjF (d + 5) 163 [.ref 58, .ref 1, .int (nI fr), .int (nI n)] (mjW0 s) = if (sgT (s.1 1) n fr).1 = 0 then some (some (.int (-1)), mjW0 s) else some (some (.int (nI (sgT (s.1 1) n fr).2)), mjW0 (tkPut s m (sgT (s.1 1) n fr).1 (nI fr) 0)) := by
  have one := x_sgOne (d := d) hn hf hc hm hb
  have tail : ∀ P : Prop, (if s.1 1 fr ≤ 0 ∨ ¬ 0 ≤ ixF (s.1 1 fr) 16 0 then some (some (Value.int (-1)), mjW0 s) else some (some (Value.int (nI (fr + 1))), mjW0 (tkPut s m (s.1 1 fr) (nI fr) 0)) : mjU) = if (if s.1 1 fr ≤ 0 ∨ ¬ 0 ≤ ixF (s.1 1 fr) 16 0 then ((0 : Int32), n) else (s.1 1 fr, fr + 1)).1 = 0 then some (some (.int (-1)), mjW0 s) else some (some (.int (nI (if s.1 1 fr ≤ 0 ∨ ¬ 0 ≤ ixF (s.1 1 fr) 16 0 then ((0 : Int32), n) else (s.1 1 fr, fr + 1)).2)), mjW0 (tkPut s m (if s.1 1 fr ≤ 0 ∨ ¬ 0 ≤ ixF (s.1 1 fr) 16 0 then ((0 : Int32), n) else (s.1 1 fr, fr + 1)).1 (nI fr) 0)) := by
    intro _
    by_cases h : s.1 1 fr ≤ 0 ∨ ¬ 0 ≤ ixF (s.1 1 fr) 16 0
    · simp only [if_pos h, ↓reduceIte]
    · have h3 : ¬ s.1 1 fr = 0 := fun e => h (Or.inl (by rw [e]; decide))
      simp only [if_neg h, if_neg h3]
  rw [e_163]
  unfold f_163
  unfold b_163_0 b_163_26
  rw [xa_1, if_pos (mj_in_nI (by omega) (by decide)), nI_clamp (by omega), nI_1]
  have vT : ¬ (fr + 1 < n ∧ s.1 1 (fr + 1) = 61 ∧ (s.1 1 fr = 61 ∨ s.1 1 fr = 33)) → sgT (s.1 1) n fr = if s.1 1 fr ≤ 0 ∨ ¬ 0 ≤ ixF (s.1 1 fr) 16 0 then ((0 : Int32), n) else (s.1 1 fr, fr + 1) := fun h => by
    unfold sgT
    exact if_neg h
  by_cases h1 : fr + 1 < n
  · rw [if_neg (nI_ge h1 (by omega)), xa_1, if_pos (mj_in_nI (by omega) (by decide)), nI_clamp (by omega)]
    by_cases h2 : s.1 1 (fr + 1) = 61
    · rw [if_pos h2]
      unfold b_163_27 b_163_48 b_163_65
      rw [if_neg (by decide)]
      by_cases h3 : s.1 1 fr = 61
      · have v : sgT (s.1 1) n fr = (200, fr + 2) := by
          unfold sgT
          rw [if_pos ⟨h1, h2, Or.inl h3⟩, if_pos h3]
        rw [v, if_pos h3, if_pos h3, xV_58, x_put hc hm, bN_s, if_neg (show ¬ ((200 : Int32) = 0) by decide), show nI fr + (2 : Int32) = nI (fr + 2) from nI_add fr 2]
      · rw [if_neg h3]
        by_cases h4 : s.1 1 fr = 33
        · have v : sgT (s.1 1) n fr = (201, fr + 2) := by
            unfold sgT
            rw [if_pos ⟨h1, h2, Or.inr h4⟩, if_neg h3]
          rw [v, if_pos h4, if_neg h3, xV_58, x_put hc hm, bN_s, if_neg (show ¬ ((201 : Int32) = 0) by decide), show nI fr + (2 : Int32) = nI (fr + 2) from nI_add fr 2]
        · rw [if_neg h4, one, vT (fun e => e.2.2.elim h3 h4)]
          exact tail True
    · rw [if_neg h2]
      unfold b_163_27
      rw [if_pos rfl, one, vT (fun e => h2 e.2.1)]
      exact tail True
  · rw [if_pos (nI_le (by omega) (by omega))]
    unfold b_163_27
    rw [if_pos rfl, one, vT (fun e => h1 e.1)]
    exact tail True
/-- one token of the class: its kind, its key, where the next is sought -/
def c1 (tx : Nat → Int32) (w : Nat → Int64) (n fr : Nat) : Int32 × Int64 × Nat :=
  if isLb (tx fr) = true then (if (scN tx (n - fr) 0 fr).2 - fr ≤ 10 then (if 90 < tx fr then wdF w (scN tx (n - fr) 0 fr).1 16 0 else 2, (scN tx (n - fr) 0 fr).1, (scN tx (n - fr) 0 fr).2) else (1, 0, n))
  else if isDb (tx fr) = true then (if (scD tx (n - fr) 0 fr).2 - fr ≤ 9 then (4, (scD tx (n - fr) 0 fr).1, (scD tx (n - fr) 0 fr).2) else (1, 0, n))
  else if (sgT tx n fr).1 = 0 then (1, 0, n) else ((sgT tx n fr).1, 0, (sgT tx n fr).2)
theorem nI_m1 {a : Nat} (h : a < 2 ^ 31) : ¬ nI a = -1 := fun e => nI_pos h (by rw [e]; decide)
theorem sgT_le (tx : Nat → Int32) {n fr : Nat} (hf : fr < n) : (sgT tx n fr).2 ≤ n := by
  unfold sgT
  by_cases h : fr + 1 < n ∧ tx (fr + 1) = 61 ∧ (tx fr = 61 ∨ tx fr = 33)
  · rw [if_pos h]; show fr + 2 ≤ n; omega
  · rw [if_neg h]
    by_cases g : tx fr ≤ 0 ∨ ¬ 0 ≤ ixF (tx fr) 16 0
    · rw [if_pos g]; exact Nat.le_refl _
    · rw [if_neg g]; exact hf
theorem x_one {d n fr m : Nat} {s : mjSt3} (hn : n ≤ 3000) (hf : fr < n) (hc : s.1 58 5 = nI m) (hm : m < 3001) (hb : s.1 1 fr ≤ 127) : mjF (d + 6) 156 [.ref 58, .ref 1, .int (nI fr), .int (nI n)] (mjW0 s) = some (some (.int (nI (c1 (s.1 1) (s.2.1 59) n fr).2.2)), mjW0 (tkPut s m (c1 (s.1 1) (s.2.1 59) n fr).1 (nI fr) (c1 (s.1 1) (s.2.1 59) n fr).2.1)) := by
  have bad : b_156_54 (mjF (d + 5)) 58 (nI fr) (nI n) (-1) (mjW0 s) = some (some (.int (nI n)), mjW0 (tkPut s m 1 (nI fr) 0)) := by
    unfold b_156_54
    rw [if_pos rfl, xV_58, x_put hc hm, bN_s]
  have good : ∀ (a : Nat) (s' : mjSt3), a ≤ n → b_156_54 (mjF (d + 5)) 58 (nI fr) (nI n) (nI a) (mjW0 s') = some (some (.int (nI a)), mjW0 s') := by
    intro a s' ha
    unfold b_156_54
    rw [if_neg (nI_m1 (by omega))]
  have e : fr + (n - fr) = n := by omega
  rw [e_156]
  unfold f_156
  unfold b_156_0 c1
  rw [xa_1, if_pos (mj_in_nI (by omega) (by decide)), nI_clamp (by omega), x_letter, bI_s]
  by_cases h1 : isLb (s.1 1 fr) = true
  · rw [if_neg (i1 h1), xV_58, x_name hn e hf hc hm]
    simp only [if_pos h1]
    have r := scN_le (s.1 1) (n - fr) 0 fr
    by_cases g : (scN (s.1 1) (n - fr) 0 fr).2 - fr ≤ 10
    · simp only [if_pos g]
      rw [bI_s, good _ _ (by omega)]
    · simp only [if_neg g]
      rw [bI_s, bad]
  · rw [if_pos (i0 h1), x_digit, bI_s]
    simp only [if_neg h1]
    by_cases h2 : isDb (s.1 1 fr) = true
    · rw [if_neg (i1 h2), xV_58, x_number hn e hc hm]
      simp only [if_pos h2]
      have r := scD_le (s.1 1) (n - fr) 0 fr
      by_cases g : (scD (s.1 1) (n - fr) 0 fr).2 - fr ≤ 9
      · simp only [if_pos g]
        rw [bI_s, good _ _ (by omega)]
      · simp only [if_neg g]
        rw [bI_s, bad]
    · rw [if_pos (i0 h2), xV_58, x_sign hn hf hc hm hb]
      simp only [if_neg h2]
      by_cases g : (sgT (s.1 1) n fr).1 = 0
      · simp only [if_pos g]
        rw [bI_s, bad]
      · simp only [if_neg g]
        rw [bI_s, good _ _ (sgT_le _ hf)]
end
section
/-! ===== all tokens cut ===== -/
theorem scN_adv (tx : Nat → Int32) {k : Nat} {key : Int64} {i : Nat} (h : isLb (tx i) = true) : i < (scN tx (k + 1) key i).2 := by
  unfold scN
  rw [if_pos h]
  exact (scN_le tx k _ (i + 1)).1
theorem scD_adv (tx : Nat → Int32) {k : Nat} {v : Int64} {i : Nat} (h : isDb (tx i) = true) : i < (scD tx (k + 1) v i).2 := by
  unfold scD
  rw [if_pos h]
  exact (scD_le tx k _ (i + 1)).1
theorem sgT_adv (tx : Nat → Int32) {n fr : Nat} (hf : fr < n) : fr < (sgT tx n fr).2 := by
  unfold sgT
  by_cases h : fr + 1 < n ∧ tx (fr + 1) = 61 ∧ (tx fr = 61 ∨ tx fr = 33)
  · rw [if_pos h]; show fr < fr + 2; omega
  · rw [if_neg h]
    by_cases g : tx fr ≤ 0 ∨ ¬ 0 ≤ ixF (tx fr) 16 0
    · rw [if_pos g]; exact hf
    · rw [if_neg g]; exact Nat.lt_succ_self fr
theorem c1_adv (tx : Nat → Int32) (w : Nat → Int64) {n fr : Nat} (hf : fr < n) : fr < (c1 tx w n fr).2.2 ∧ (c1 tx w n fr).2.2 ≤ n := by
  obtain ⟨k, hk⟩ : ∃ k, n - fr = k + 1 := ⟨n - fr - 1, by omega⟩
  unfold c1
  by_cases h1 : isLb (tx fr) = true
  · rw [if_pos h1]
    by_cases g : (scN tx (n - fr) 0 fr).2 - fr ≤ 10
    · rw [if_pos g]
      refine ⟨?_, ?_⟩
      · show fr < (scN tx (n - fr) 0 fr).2
        rw [hk]; exact scN_adv tx h1
      · have := (scN_le tx (n - fr) 0 fr).2
        show (scN tx (n - fr) 0 fr).2 ≤ n
        omega
    · rw [if_neg g]; exact ⟨hf, Nat.le_refl n⟩
  · rw [if_neg h1]
    by_cases h2 : isDb (tx fr) = true
    · rw [if_pos h2]
      by_cases g : (scD tx (n - fr) 0 fr).2 - fr ≤ 9
      · rw [if_pos g]
        refine ⟨?_, ?_⟩
        · show fr < (scD tx (n - fr) 0 fr).2
          rw [hk]; exact scD_adv tx h2
        · have := (scD_le tx (n - fr) 0 fr).2
          show (scD tx (n - fr) 0 fr).2 ≤ n
          omega
      · rw [if_neg g]; exact ⟨hf, Nat.le_refl n⟩
    · rw [if_neg h2]
      by_cases g : (sgT tx n fr).1 = 0
      · rw [if_pos g]; exact ⟨hf, Nat.le_refl n⟩
      · rw [if_neg g]; exact ⟨sgT_adv tx hf, sgT_le tx hf⟩
/-- the tokens from fr on (fr is behind blanks): kind, place, key; k: at most so many -/
def toks (tx : Nat → Int32) (w : Nat → Int64) (n : Nat) : Nat → Nat → List (Int32 × Nat × Int64)
  | 0, _ => []
  | k + 1, fr => if fr < n then ((c1 tx w n fr).1, fr, (c1 tx w n fr).2.1) :: toks tx w n k (skB tx (n - (c1 tx w n fr).2.2) false (c1 tx w n fr).2.2) else []
theorem toks_len (tx : Nat → Int32) (w : Nat → Int64) (n : Nat) : ∀ (k fr : Nat), fr + (toks tx w n k fr).length ≤ max fr n
  | 0, fr => by show fr + 0 ≤ _; omega
  | k + 1, fr => by
    unfold toks
    by_cases h : fr < n
    · rw [if_pos h]
      have a := c1_adv tx w h
      have b := skB_le tx (n - (c1 tx w n fr).2.2) false (c1 tx w n fr).2.2
      have r := toks_len tx w n k (skB tx (n - (c1 tx w n fr).2.2) false (c1 tx w n fr).2.2)
      simp only [List.length_cons]
      omega
    · rw [if_neg h]
      simp only [List.length_nil]
      omega
/-- the rows hold these tokens from m on -/
def holdsT (s : mjSt3) : Nat → List (Int32 × Nat × Int64) → Prop
  | _, [] => True
  | m, t :: ts => (s.1 60 m = t.1 ∧ s.1 61 m = nI t.2.1 ∧ s.2.1 62 m = t.2.2 ∧ s.1 63 m = 0) ∧ holdsT s (m + 1) ts
/-- nothing but tokens from m on, and how many there are, has changed -/
def offK (s s' : mjSt3) (m : Nat) : Prop := (∀ q, ¬ q = 58 → ¬ q = 60 → ¬ q = 61 → ¬ q = 63 → s'.1 q = s.1 q) ∧ (∀ j, ¬ j = 5 → s'.1 58 j = s.1 58 j) ∧ (∀ q, ¬ q = 62 → s'.2.1 q = s.2.1 q) ∧ s'.2.2 = s.2.2 ∧ (∀ i, i < m → s'.1 60 i = s.1 60 i ∧ s'.1 61 i = s.1 61 i ∧ s'.2.1 62 i = s.2.1 62 i ∧ s'.1 63 i = s.1 63 i)
theorem offK.rf (s : mjSt3) (m : Nat) : offK s s m := ⟨fun _ _ _ _ _ => rfl, fun _ _ => rfl, fun _ _ => rfl, rfl, fun _ _ => ⟨rfl, rfl, rfl, rfl⟩⟩
theorem offK.tr {s s' s'' : mjSt3} {m m' : Nat} (h : offK s s' m) (g : offK s' s'' m') (hm : m ≤ m') : offK s s'' m := by
  obtain ⟨a1, a2, a3, a4, a5⟩ := h
  obtain ⟨b1, b2, b3, b4, b5⟩ := g
  refine ⟨fun q x0 x1 x2 x3 => (b1 q x0 x1 x2 x3).trans (a1 q x0 x1 x2 x3), fun j hj => (b2 j hj).trans (a2 j hj), fun q hq => (b3 q hq).trans (a3 q hq), b4.trans a4, fun i hi => ?_⟩
  obtain ⟨c1', c2, c3, c4⟩ := b5 i (by omega)
  obtain ⟨d1, d2, d3, d4⟩ := a5 i hi
  exact ⟨c1'.trans d1, c2.trans d2, c3.trans d3, c4.trans d4⟩
theorem tkPut_60 (s : mjSt3) (n : Nat) (kd pl : Int32) (key : Int64) : (tkPut s n kd pl key).1 60 = upd (s.1 60) n kd := by
  simp only [tkPut, uI_ne, uI_same, uL_i, Nat.reduceEqDiff, not_false_eq_true]
theorem tkPut_61 (s : mjSt3) (n : Nat) (kd pl : Int32) (key : Int64) : (tkPut s n kd pl key).1 61 = upd (s.1 61) n pl := by
  simp only [tkPut, uI_ne, uI_same, uL_i, Nat.reduceEqDiff, not_false_eq_true]
theorem tkPut_63 (s : mjSt3) (n : Nat) (kd pl : Int32) (key : Int64) : (tkPut s n kd pl key).1 63 = upd (s.1 63) n 0 := by
  simp only [tkPut, uI_ne, uI_same, uL_i, Nat.reduceEqDiff, not_false_eq_true]
theorem tkPut_58 (s : mjSt3) (n : Nat) (kd pl : Int32) (key : Int64) : (tkPut s n kd pl key).1 58 = upd (s.1 58) 5 (nI (n + 1)) := by
  simp only [tkPut, uI_same]
theorem tkPut_62 (s : mjSt3) (n : Nat) (kd pl : Int32) (key : Int64) : (tkPut s n kd pl key).2.1 62 = vp_updL (s.2.1 62) n key := by
  simp only [tkPut, uI_l, uL_same]
theorem tkPut_off (s : mjSt3) (n : Nat) (kd pl : Int32) (key : Int64) : offK s (tkPut s n kd pl key) n := by
  refine ⟨fun q x0 x1 x2 x3 => ?_, fun j hj => ?_, fun q hq => ?_, rfl, fun i hi => ?_⟩
  · simp only [tkPut, uI_ne _ _ _ _ x0, uI_ne _ _ _ _ x1, uI_ne _ _ _ _ x2, uI_ne _ _ _ _ x3, uL_i]
  · rw [tkPut_58]; exact if_neg hj
  · simp only [tkPut, uI_l, uL_ne _ _ _ _ hq]
  · rw [tkPut_60, tkPut_61, tkPut_62, tkPut_63]
    have e : ¬ i = n := by omega
    exact ⟨if_neg e, if_neg e, if_neg e, if_neg e⟩
theorem tkPut_at (s : mjSt3) (n : Nat) (kd pl : Int32) (key : Int64) : (tkPut s n kd pl key).1 60 n = kd ∧ (tkPut s n kd pl key).1 61 n = pl ∧ (tkPut s n kd pl key).2.1 62 n = key ∧ (tkPut s n kd pl key).1 63 n = 0 := by
  rw [tkPut_60, tkPut_61, tkPut_62, tkPut_63]
  exact ⟨if_pos rfl, if_pos rfl, if_pos rfl, if_pos rfl⟩
theorem tkPut_n (s : mjSt3) (n : Nat) (kd pl : Int32) (key : Int64) : (tkPut s n kd pl key).1 58 5 = nI (n + 1) := by
  rw [tkPut_58]
  exact if_pos rfl
theorem lq_154 {d n : Nat} (hn : n ≤ 3000) : ∀ (k fr j q m : Nat) (s : mjSt3), n ≤ fr + k → j ≤ fr → fr ≤ n → m ≤ fr → s.1 58 5 = nI m → k < q → (∀ i, i < n → s.1 1 i ≤ 127) →
    ∃ s', L_154_30 (mjF (d + 6)) q 58 1 (nI n) (nI fr) (nI j) (mjW0 s) = some (none, mjW0 s') ∧ offK s s' m ∧ holdsT s' m (toks (s.1 1) (s.2.1 59) n k fr ++ [(0, n, 0)]) ∧ s'.1 58 5 = nI (m + (toks (s.1 1) (s.2.1 59) n k fr).length + 1) := by
  intro k
  induction k with
  | zero =>
    intro fr j q m s hk hj hf hm hc hq hb
    obtain ⟨q, rfl⟩ : ∃ x, q = x + 1 := ⟨q - 1, by omega⟩
    have e : fr = n := by omega
    subst e
    refine ⟨tkPut s m 0 (nI fr) 0, ?_, tkPut_off s m 0 (nI fr) 0, ⟨tkPut_at s m 0 (nI fr) 0, True.intro⟩, tkPut_n s m 0 (nI fr) 0⟩
    show b_154_30 (mjF (d + 6)) (L_154_30 (mjF (d + 6)) q) 58 1 (nI fr) (nI fr) (nI j) (mjW0 s) = _
    unfold b_154_30 b_154_60
    rw [xV_58, x_put hc (by omega), bN_s, if_pos (nI_le (Nat.le_refl fr) (by omega)), ite_self]
  | succ k ih =>
    intro fr j q m s hk hj hf hm hc hq hb
    obtain ⟨q, rfl⟩ : ∃ x, q = x + 1 := ⟨q - 1, by omega⟩
    by_cases h : fr < n
    · have a := c1_adv (s.1 1) (s.2.1 59) h
      have b := skB_le (s.1 1) (n - (c1 (s.1 1) (s.2.1 59) n fr).2.2) false (c1 (s.1 1) (s.2.1 59) n fr).2.2
      have o1 := tkPut_off s m (c1 (s.1 1) (s.2.1 59) n fr).1 (nI fr) (c1 (s.1 1) (s.2.1 59) n fr).2.1
      have t1 : (tkPut s m (c1 (s.1 1) (s.2.1 59) n fr).1 (nI fr) (c1 (s.1 1) (s.2.1 59) n fr).2.1).1 1 = s.1 1 := o1.1 1 (by decide) (by decide) (by decide) (by decide)
      have w1 : (tkPut s m (c1 (s.1 1) (s.2.1 59) n fr).1 (nI fr) (c1 (s.1 1) (s.2.1 59) n fr).2.1).2.1 59 = s.2.1 59 := o1.2.2.1 59 (by decide)
      obtain ⟨s', e1, e2, e3, e4⟩ := ih (skB (s.1 1) (n - (c1 (s.1 1) (s.2.1 59) n fr).2.2) false (c1 (s.1 1) (s.2.1 59) n fr).2.2) (j + 1) q (m + 1) (tkPut s m (c1 (s.1 1) (s.2.1 59) n fr).1 (nI fr) (c1 (s.1 1) (s.2.1 59) n fr).2.1) (by omega) (by omega) (by omega) (by omega) (tkPut_n s m _ _ _) (by omega) (by rw [t1]; exact hb)
      rw [t1, w1] at e3 e4
      have at1 := tkPut_at s m (c1 (s.1 1) (s.2.1 59) n fr).1 (nI fr) (c1 (s.1 1) (s.2.1 59) n fr).2.1
      have u := e2.2.2.2.2 m (by omega)
      refine ⟨s', ?_, o1.tr e2 (by omega), ?_, ?_⟩
      · show b_154_30 (mjF (d + 6)) (L_154_30 (mjF (d + 6)) q) 58 1 (nI n) (nI fr) (nI j) (mjW0 s) = _
        unfold b_154_30
        rw [if_neg (nI_ge (by omega) (by omega)), if_neg (nI_ge h (by omega)), xV_58, x_one hn h hc (by omega) (hb fr h), bI_s, x_blanks (k := n - (c1 (s.1 1) (s.2.1 59) n fr).2.2) hn (by omega), bI_s, t1, nI_1]
        exact e1
      · unfold toks
        rw [if_pos h]
        exact ⟨⟨u.1.trans at1.1, u.2.1.trans at1.2.1, u.2.2.1.trans at1.2.2.1, u.2.2.2.trans at1.2.2.2⟩, e3⟩
      · unfold toks
        rw [if_pos h, e4, List.length_cons]
        congr 1
        omega
    · have e : fr = n := by omega
      subst e
      refine ⟨tkPut s m 0 (nI fr) 0, ?_, tkPut_off s m 0 (nI fr) 0, ?_, ?_⟩
      · show b_154_30 (mjF (d + 6)) (L_154_30 (mjF (d + 6)) q) 58 1 (nI fr) (nI fr) (nI j) (mjW0 s) = _
        unfold b_154_30 b_154_60
        rw [xV_58, x_put hc (by omega), bN_s, if_pos (nI_le (Nat.le_refl fr) (by omega)), ite_self]
      · unfold toks
        rw [if_neg h]
        exact ⟨tkPut_at s m 0 (nI fr) 0, True.intro⟩
      · unfold toks
        rw [if_neg h]
        exact tkPut_n s m 0 (nI fr) 0
end
section
/-! ===== cut ===== -/
/-- the class's tokens of the first n bytes -/
def cToks (s : mjSt3) (n : Nat) : List (Int32 × Nat × Int64) := toks (s.1 1) (s.2.1 59) n n (skB (s.1 1) n false 0)
/-- the tokens stand in the rows, the cursor at the first, no fault is met -/
def cutS (s s' : mjSt3) (n : Nat) : Prop := s'.1 58 5 = nI ((cToks s n).length + 1) ∧ s'.1 58 6 = 0 ∧ s'.1 58 7 = 0 ∧ s'.1 58 8 = -1 ∧ holdsT s' 0 (cToks s n ++ [(0, n, 0)]) ∧ (∀ q, ¬ q = 58 → ¬ q = 60 → ¬ q = 61 → ¬ q = 63 → s'.1 q = s.1 q) ∧ (∀ q, ¬ q = 62 → s'.2.1 q = s.2.1 q) ∧ s'.2.2 = s.2.2
theorem x_cut {d n : Nat} {s : mjSt3} (hn : n ≤ 3000) (hb : ∀ i, i < n → s.1 1 i ≤ 127) : ∃ s', mjF (d + 7) 154 [.ref 58, .ref 1, .int (nI n)] (mjW0 s) = some (none, mjW0 s') ∧ cutS s s' n := by
  rw [e_154]
  unfold f_154
  unfold b_154_0
  rw [xp_58_5, xp_58_6, xp_58_7, xp_58_8]
  simp only [uI_same, uI_uI]
  generalize hz : uI s 58 (upd (upd (upd (upd (s.1 58) 5 0) 6 0) 7 0) 8 (-1)) = z
  have z58 : z.1 58 = upd (upd (upd (upd (s.1 58) 5 0) 6 0) 7 0) 8 (-1) := by rw [← hz, uI_same]
  have zq : ∀ q, ¬ q = 58 → z.1 q = s.1 q := fun q hq => by rw [← hz, uI_ne _ _ _ _ hq]
  have z2 : z.2 = s.2 := by rw [← hz]; rfl
  have z5 : z.1 58 5 = nI 0 := by rw [z58]; rfl
  have sk := skB_le (s.1 1) n false 0
  have e1 := x_blanks (d := d + 5) (n := n) (i := 0) (k := n) (s := z) hn (by omega)
  rw [zq 1 (by decide)] at e1
  obtain ⟨s', g1, g2, g3, g4⟩ := lq_154 (d := d) hn n (skB (s.1 1) n false 0) 0 mjN 0 z (by omega) (by omega) (by omega) (by omega) z5 (by unfold mjN; omega) (by rw [zq 1 (by decide)]; exact hb)
  rw [zq 1 (by decide), z2] at g3 g4
  obtain ⟨o1, o2, o3, o4, o5⟩ := g2
  refine ⟨s', ?_, ?_, ?_, ?_, ?_, g3, ?_, ?_, ?_⟩
  · rw [show (0 : Int32) = nI 0 from rfl, e1, bI_s]
    exact g1
  · rw [g4, Nat.zero_add]; rfl
  · rw [o2 6 (by decide), z58]; rfl
  · rw [o2 7 (by decide), z58]; rfl
  · rw [o2 8 (by decide), z58]; rfl
  · intro q x0 x1 x2 x3
    rw [o1 q x0 x1 x2 x3, zq q x0]
  · intro q hq
    rw [o3 q hq, z2]
  · rw [o4, z2]
end
section
/-! ===== the reference's lexer: look, code, blanks ===== -/
def lk (ty : Nat → Int32) (n i : Nat) : Int32 := if i < n then ty i &&& 255 else 0
theorem x_look {d n i : Nat} {s : mjSt3} (he : s.1 97 2 = nI n) (hn : n ≤ 3000) (hi : i < 2 ^ 31) : mjF (d + 1) 263 [.ref 97, .int (nI i)] (mjW0 s) = some (some (.int (lk (s.1 98) n i)), mjW0 s) := by
  rw [e_263]
  unfold f_263
  unfold b_263_0 lk
  rw [xg_97_2, he]
  by_cases h : i < n
  · rw [if_neg (nI_ge h (by omega)), if_pos h, xg_97_0, xa_98, if_pos (mj_in_nI (by omega) (by decide)), nI_clamp hi]
  · rw [if_pos (nI_le (by omega) hi), if_neg h]
def cdM (b : Int32) : Int32 := if ¬ b < 97 ∧ ¬ 122 < b then (b - 97) + 1 else if ¬ b < 65 ∧ ¬ 90 < b then (b - 65) + 27 else if ¬ b < 48 ∧ ¬ 57 < b then (b - 48) + 53 else 0
theorem x_code {d : Nat} {hp : mjH} (b : Int32) : mjF (d + 1) 228 [.int b] hp = some (some (.int (cdM b)), hp) := by
  rw [e_228]
  unfold f_228
  unfold b_228_0 b_228_21 b_228_43 b_228_65 cdM
  by_cases h1 : b < 97 <;> by_cases h2 : 122 < b <;> by_cases h3 : b < 65 <;> by_cases h4 : 90 < b <;> by_cases h5 : b < 48 <;> by_cases h6 : 57 < b <;> simp [h1, h2, h3, h4, h5, h6]
def goAt (s : mjSt3) (i : Nat) : mjSt3 := uI s 97 (upd (s.1 97) 4 (nI i))
theorem goAt_4 (s : mjSt3) (i : Nat) : (goAt s i).1 97 4 = nI i := by
  unfold goAt
  rw [uI_same]
  exact if_pos rfl
theorem goAt_j (s : mjSt3) (i j : Nat) (h : ¬ j = 4) : (goAt s i).1 97 j = s.1 97 j := by
  unfold goAt
  rw [uI_same]
  exact if_neg h
theorem goAt_q (s : mjSt3) (i q : Nat) (h : ¬ q = 97) : (goAt s i).1 q = s.1 q := if_neg h
theorem upd_upd (f : Nat → Int32) (j : Nat) (x y : Int32) : upd (upd f j x) j y = upd f j y := by
  funext i
  unfold upd
  by_cases h : i = j
  · rw [if_pos h, if_pos h]
  · rw [if_neg h, if_neg h, if_neg h]
theorem goAt_goAt (s : mjSt3) (i j : Nat) : goAt (goAt s i) j = goAt s j := by
  unfold goAt
  rw [uI_same, uI_uI, upd_upd]
theorem p_at {s : mjSt3} {i j : Nat} {k : mjH → mjU} : pI (mjW0 (goAt s i)) 97 12 4 (nI j) k = k (mjW0 (goAt s j)) := by
  rw [xp_97_4]
  congr 2
  exact goAt_goAt s i j
/-- bytes told apart: as 0 to 255 they are 10, 32, 35, 61 .. just where they are so as -128 to 127 -/
def byR (b : Int32) : Prop := ¬ b < -128 ∧ b ≤ 127
theorem by_255 : (List.range 256).all (fun j => [10, 32, 35, 61, 33].all (fun c => decide ((Int32.ofInt ((j : Int) - 128) &&& 255 = c) ↔ (Int32.ofInt ((j : Int) - 128) = c)))) = true := by decide +kernel
theorem by_of {b : Int32} (h : byR b) : ∃ j : Nat, j < 256 ∧ b = Int32.ofInt ((j : Int) - 128) := by
  obtain ⟨h1, h2⟩ := h
  have a : (-128 : Int) ≤ b.toInt := by
    have := Int32.le_iff_toInt_le.mp (Int32.not_lt.mp h1)
    simpa using this
  have c : b.toInt ≤ 127 := by
    have := Int32.le_iff_toInt_le.mp h2
    simpa using this
  refine ⟨(b.toInt + 128).toNat, by omega, ?_⟩
  have e : (((b.toInt + 128).toNat : Nat) : Int) - 128 = b.toInt := by omega
  rw [e]
  exact (Int32.ofInt_toInt b).symm
theorem by_eq {b c : Int32} (h : byR b) (hc : c ∈ ([10, 32, 35, 61, 33] : List Int32)) : (b &&& 255 = c) ↔ b = c := by
  obtain ⟨j, hj, rfl⟩ := by_of h
  have k := List.all_eq_true.mp (List.all_eq_true.mp by_255 j (List.mem_range.mpr hj)) c hc
  simpa using k
end
