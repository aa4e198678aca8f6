/-! ===== feed ===== -/
theorem lS_203 (R : mjR) (n : Nat) (a : Nat) (b c : Int32) (hp : mjH) : L_203_3 R (n + 1) a b c hp = b_203_3 R (L_203_3 R n) a b c hp := rfl
theorem lS_259 (R : mjR) (n : Nat) (a : Nat) (b c : Int32) (hp : mjH) : L_259_2 R (n + 1) a b c hp = b_259_2 R (L_259_2 R n) a b c hp := rfl
/-- one byte of an int -/
def bY (v sh : Int32) : Int32 := vp_nar .byte ((v >>> (sh &&& 31)).toInt8.toInt32)
/-- a byte laid on the tape of the object at h, whose row is at r -/
def laid (h r : Nat) (s s' : mjSt3) (t : Nat) (x : Int32) : Prop := s'.1 h = upd (s.1 h) 1 (nI (t + 1)) ∧ s'.1 r = upd (s.1 r) t x ∧ (∀ q, ¬ q = h → ¬ q = r → s'.1 q = s.1 q) ∧ s'.2 = s.2
theorem rt_203 {R : mjR} {n : Nat} {s : mjSt3} {v sh : Int32} {t : Nat} (ht : s.1 0 1 = nI t) (hl : t < 3000) (h1 : ¬ sh < 0) : ∃ s', L_203_3 R (n + 1) 0 v sh (mjW0 s) = L_203_3 R n 0 v (sh + (-8)) (mjW0 s') ∧ laid 0 1 s s' t (bY v sh) := by
  rw [lS_203]
  unfold b_203_3
  rw [if_neg h1, xg_0_1, ht, if_neg (show ¬ (3000 : Int32) ≤ nI t from nI_ge (b := 3000) hl (by decide)), xg_0_0, xg_0_1, ht, xs_1, if_pos (mj_in_nI hl (by decide)), xg_0_1, uI_ne _ _ _ _ (by decide), ht, xp_0_1, nI_clamp (by omega), uI_ne _ _ _ _ (by decide), nI_1]
  refine ⟨_, rfl, ?_, ?_, ?_, rfl⟩
  · rw [uI_same]
  · rw [uI_ne _ _ _ _ (by decide), uI_same]; rfl
  · intro q h0 hr
    rw [uI_ne _ _ _ _ h0, uI_ne _ _ _ _ hr]
theorem rt_259 {R : mjR} {n : Nat} {s : mjSt3} {v sh : Int32} {t : Nat} (ht : s.1 97 1 = nI t) (hl : t < 3000) (h1 : ¬ sh < 0) : ∃ s', L_259_2 R (n + 1) 97 v sh (mjW0 s) = L_259_2 R n 97 v (sh + (-1)) (mjW0 s') ∧ laid 97 98 s s' t (bY v (8 * sh)) := by
  rw [lS_259]
  unfold b_259_2
  rw [if_neg h1, xg_97_0, xg_97_1, ht, xs_98, if_pos (mj_in_nI hl (by decide)), xg_97_1, uI_ne _ _ _ _ (by decide), ht, xp_97_1, nI_clamp (by omega), uI_ne _ _ _ _ (by decide), nI_1]
  refine ⟨_, rfl, ?_, ?_, ?_, rfl⟩
  · rw [uI_same]
  · rw [uI_ne _ _ _ _ (by decide), uI_same]; rfl
  · intro q h0 hr
    rw [uI_ne _ _ _ _ h0, uI_ne _ _ _ _ hr]
/-- the bytes xs laid from t on -/
def laidL (h r : Nat) (s s' : mjSt3) (t : Nat) (xs : List Int32) : Prop := s'.1 h 1 = nI (t + xs.length) ∧ (∀ j, ¬ j = 1 → s'.1 h j = s.1 h j) ∧ (∀ i, s'.1 r i = if t ≤ i ∧ i < t + xs.length then xs.getD (i - t) 0 else s.1 r i) ∧ (∀ q, ¬ q = h → ¬ q = r → s'.1 q = s.1 q) ∧ s'.2 = s.2
theorem laidL.nil {h r : Nat} {s : mjSt3} {t : Nat} (ht : s.1 h 1 = nI t) : laidL h r s s t [] :=
  ⟨ht, fun _ _ => rfl, fun i => (if_neg (by simp only [List.length_nil]; omega)).symm, fun _ _ _ => rfl, rfl⟩
theorem laidL.snoc {h r : Nat} {s s1 s2 : mjSt3} {t : Nat} {xs : List Int32} {x : Int32} (hr : ¬ r = h) (a : laidL h r s s1 t xs) (b : laid h r s1 s2 (t + xs.length) x) : laidL h r s s2 t (xs ++ [x]) := by
  obtain ⟨a1, a2, a3, a4, a5⟩ := a
  obtain ⟨b1, b2, b3, b4⟩ := b
  refine ⟨?_, ?_, ?_, ?_, b4.trans a5⟩
  · rw [b1, List.length_append]
    exact if_pos rfl
  · intro j hj
    rw [b1, ← a2 j hj]
    exact if_neg hj
  · intro i
    rw [b2, List.length_append, List.length_singleton]
    unfold upd
    by_cases e : i = t + xs.length
    · subst e
      rw [if_pos rfl, if_pos (by omega), show t + xs.length - t = xs.length by omega]
      simp
    · rw [if_neg e, a3]
      by_cases g : t ≤ i ∧ i < t + xs.length
      · rw [if_pos g, if_pos (by omega), List.getD_eq_getElem?_getD, List.getD_eq_getElem?_getD, List.getElem?_append_left (by omega)]
      · rw [if_neg g, if_neg (by omega)]
  · intro q h0 h1
    rw [b3 q h0 h1, a4 q h0 h1]
theorem laidL.at1 {h r : Nat} {s s1 : mjSt3} {t : Nat} {xs : List Int32} (a : laidL h r s s1 t xs) : s1.1 h 1 = nI (t + xs.length) := a.1
theorem q4_203 {d : Nat} {s s1 : mjSt3} {t : Nat} {xs : List Int32} (v : Int32) (a : laidL 0 1 s s1 t xs) (hl : t + xs.length + 4 ≤ 3000) : ∃ s', mjF (d + 1) 203 [.ref 0, .int v] (mjW0 s1) = some (none, mjW0 s') ∧ laidL 0 1 s s' t (xs ++ [bY v 24] ++ [bY v 16] ++ [bY v 8] ++ [bY v 0]) := by
  rw [e_203]
  unfold f_203
  unfold b_203_0
  rw [show mjN = 99999995 + 1 + 1 + 1 + 1 + 1 from rfl]
  obtain ⟨s2, e1, l1⟩ := rt_203 (R := mjF d) (n := 99999995 + 1 + 1 + 1 + 1) (v := v) (sh := 24) a.1 (by omega) (by decide)
  have a1 := a.snoc (by decide) l1
  obtain ⟨s3, e2, l2⟩ := rt_203 (R := mjF d) (n := 99999995 + 1 + 1 + 1) (v := v) (sh := 24 + -8) a1.1 (by simp only [List.length_append, List.length_singleton]; omega) (by decide)
  have a2 := a1.snoc (by decide) l2
  obtain ⟨s4, e3, l3⟩ := rt_203 (R := mjF d) (n := 99999995 + 1 + 1) (v := v) (sh := 24 + -8 + -8) a2.1 (by simp only [List.length_append, List.length_singleton]; omega) (by decide)
  have a3 := a2.snoc (by decide) l3
  obtain ⟨s5, e4, l4⟩ := rt_203 (R := mjF d) (n := 99999995 + 1) (v := v) (sh := 24 + -8 + -8 + -8) a3.1 (by simp only [List.length_append, List.length_singleton]; omega) (by decide)
  have a4 := a3.snoc (by decide) l4
  refine ⟨s5, ?_, a4⟩
  rw [e1, e2, e3, e4, lS_203]
  unfold b_203_3
  rw [if_pos (by decide)]
theorem q4_259 {d : Nat} {s s1 : mjSt3} {t : Nat} {xs : List Int32} (v : Int32) (a : laidL 97 98 s s1 t xs) (hl : t + xs.length + 4 ≤ 3000) : ∃ s', mjF (d + 1) 259 [.ref 97, .int v] (mjW0 s1) = some (none, mjW0 s') ∧ laidL 97 98 s s' t (xs ++ [bY v 24] ++ [bY v 16] ++ [bY v 8] ++ [bY v 0]) := by
  rw [e_259]
  unfold f_259
  unfold b_259_0
  rw [show mjN = 99999995 + 1 + 1 + 1 + 1 + 1 from rfl]
  obtain ⟨s2, e1, l1⟩ := rt_259 (R := mjF d) (n := 99999995 + 1 + 1 + 1 + 1) (v := v) (sh := 3) a.1 (by omega) (by decide)
  have a1 := a.snoc (by decide) l1
  obtain ⟨s3, e2, l2⟩ := rt_259 (R := mjF d) (n := 99999995 + 1 + 1 + 1) (v := v) (sh := 3 + -1) a1.1 (by simp only [List.length_append, List.length_singleton]; omega) (by decide)
  have a2 := a1.snoc (by decide) l2
  obtain ⟨s4, e3, l3⟩ := rt_259 (R := mjF d) (n := 99999995 + 1 + 1) (v := v) (sh := 3 + -1 + -1) a2.1 (by simp only [List.length_append, List.length_singleton]; omega) (by decide)
  have a3 := a2.snoc (by decide) l3
  obtain ⟨s5, e4, l4⟩ := rt_259 (R := mjF d) (n := 99999995 + 1) (v := v) (sh := 3 + -1 + -1 + -1) a3.1 (by simp only [List.length_append, List.length_singleton]; omega) (by decide)
  have a4 := a3.snoc (by decide) l4
  refine ⟨s5, ?_, a4⟩
  rw [e1, e2, e3, e4, lS_259]
  unfold b_259_2
  rw [if_pos (by decide)]
/-- the twenty bytes of a feed -/
def b20 (a b c e f : Int32) : List Int32 := ([] : List Int32) ++ [bY a 24] ++ [bY a 16] ++ [bY a 8] ++ [bY a 0] ++ [bY b 24] ++ [bY b 16] ++ [bY b 8] ++ [bY b 0] ++ [bY c 24] ++ [bY c 16] ++ [bY c 8] ++ [bY c 0] ++ [bY e 24] ++ [bY e 16] ++ [bY e 8] ++ [bY e 0] ++ [bY f 24] ++ [bY f 16] ++ [bY f 8] ++ [bY f 0]
theorem b20_len (a b c e f : Int32) : (b20 a b c e f).length = 20 := by
  unfold b20
  simp only [List.length_append, List.length_singleton, List.length_nil]
theorem f_feedC {d : Nat} {s : mjSt3} {t : Nat} (ht : s.1 0 1 = nI t) (hl : t + 20 ≤ 3000) (a b c e f : Int32) : ∃ s', mjF (d + 2) 202 [.ref 0, .int a, .int b, .int c, .int e, .int f] (mjW0 s) = some (some (.int (nI (t + 20))), mjW0 s') ∧ laidL 0 1 s s' t (b20 a b c e f) := by
  rw [e_202]
  unfold f_202
  unfold b_202_0
  rw [xg_0_1, ht, show nI t + 20 = nI (t + 20) from nI_add t 20, if_pos (show nI (t + 20) ≤ (3000 : Int32) from nI_le (b := 3000) hl (by decide))]
  obtain ⟨s1, e1, l1⟩ := q4_203 (d := d) a (laidL.nil (r := 1) ht) (by simp only [List.length_nil]; omega)
  obtain ⟨s2, e2, l2⟩ := q4_203 (d := d) b l1 (by simp only [List.length_append, List.length_singleton, List.length_nil]; omega)
  obtain ⟨s3, e3, l3⟩ := q4_203 (d := d) c l2 (by simp only [List.length_append, List.length_singleton, List.length_nil]; omega)
  obtain ⟨s4, e4, l4⟩ := q4_203 (d := d) e l3 (by simp only [List.length_append, List.length_singleton, List.length_nil]; omega)
  obtain ⟨s5, e5, l5⟩ := q4_203 (d := d) f l4 (by simp only [List.length_append, List.length_singleton, List.length_nil]; omega)
  have l6 : laidL 0 1 s s5 t (b20 a b c e f) := by unfold b20; exact l5
  refine ⟨s5, ?_, l6⟩
  rw [xV_0, e1, bN_s, xV_0, e2, bN_s, xV_0, e3, bN_s, xV_0, e4, bN_s, xV_0, e5, bN_s, xg_0_1, l6.1, b20_len]
theorem f_feedM {d : Nat} {s : mjSt3} {t : Nat} (ht : s.1 97 1 = nI t) (hl : t + 20 ≤ 3000) (a b c e f : Int32) : ∃ s', mjF (d + 2) 258 [.ref 97, .int a, .int b, .int c, .int e, .int f] (mjW0 s) = some (some (.int (nI (t + 20))), mjW0 s') ∧ laidL 97 98 s s' t (b20 a b c e f) := by
  rw [e_258]
  unfold f_258
  unfold b_258_0
  rw [xg_97_1, ht, show nI t + 20 = nI (t + 20) from nI_add t 20, if_pos (show nI (t + 20) ≤ (3000 : Int32) from nI_le (b := 3000) hl (by decide))]
  obtain ⟨s1, e1, l1⟩ := q4_259 (d := d) a (laidL.nil (r := 98) ht) (by simp only [List.length_nil]; omega)
  obtain ⟨s2, e2, l2⟩ := q4_259 (d := d) b l1 (by simp only [List.length_append, List.length_singleton, List.length_nil]; omega)
  obtain ⟨s3, e3, l3⟩ := q4_259 (d := d) c l2 (by simp only [List.length_append, List.length_singleton, List.length_nil]; omega)
  obtain ⟨s4, e4, l4⟩ := q4_259 (d := d) e l3 (by simp only [List.length_append, List.length_singleton, List.length_nil]; omega)
  obtain ⟨s5, e5, l5⟩ := q4_259 (d := d) f l4 (by simp only [List.length_append, List.length_singleton, List.length_nil]; omega)
  have l6 : laidL 97 98 s s5 t (b20 a b c e f) := by unfold b20; exact l5
  refine ⟨s5, ?_, l6⟩
  rw [xV_97, e1, bN_s, xV_97, e2, bN_s, xV_97, e3, bN_s, xV_97, e4, bN_s, xV_97, e5, bN_s, xg_97_1, l6.1, b20_len]
/-- the two tapes are one -/
def I_tape (s : mjSt3) : Prop := ∃ t : Nat, t ≤ 3000 ∧ s.1 0 1 = nI t ∧ s.1 97 1 = nI t ∧ ∀ i, i < t → s.1 1 i = s.1 98 i
/-- all but the tapes is as it was -/
def offT (s s' : mjSt3) : Prop := (∀ q, ¬ q = 0 → ¬ q = 1 → ¬ q = 97 → ¬ q = 98 → s'.1 q = s.1 q) ∧ (∀ j, ¬ j = 1 → s'.1 0 j = s.1 0 j) ∧ (∀ j, ¬ j = 1 → s'.1 97 j = s.1 97 j) ∧ s'.2 = s.2
theorem offT.rf {s : mjSt3} : offT s s := ⟨fun _ _ _ _ _ => rfl, fun _ _ => rfl, fun _ _ => rfl, rfl⟩
theorem pair_feed {I2 : mjSt3 → Prop} (hst : ∀ s s', offT s s' → I2 s → I2 s') (s : mjSt3) (hs : I_tape s ∧ I2 s) (a b c e f : Int32) : PairOK (fun s => I_tape s ∧ I2 s) 202 258 [.int a, .int b, .int c, .int e, .int f] s := by
  obtain ⟨⟨t, h3, t1, t2, hx⟩, h2⟩ := hs
  by_cases hl : t + 20 ≤ 3000
  · obtain ⟨s1, e1, l1⟩ := f_feedC (d := 1997) t1 hl a b c e f
    have m1 : s1.1 97 = s.1 97 := l1.2.2.2.1 97 (by decide) (by decide)
    have m2 : s1.1 98 = s.1 98 := l1.2.2.2.1 98 (by decide) (by decide)
    obtain ⟨s2, e2, l2⟩ := f_feedM (d := 1997) (s := s1) (t := t) (by rw [m1]; exact t2) hl a b c e f
    have n0 : s2.1 0 = s1.1 0 := l2.2.2.2.1 0 (by decide) (by decide)
    have n1 : s2.1 1 = s1.1 1 := l2.2.2.2.1 1 (by decide) (by decide)
    refine ⟨_, s1, s2, e1, e2, ⟨t + 20, hl, ?_, (by rw [l2.1, b20_len]), ?_⟩, hst s s2 ⟨?_, ?_, ?_, ?_⟩ h2⟩
    · rw [n0, l1.1, b20_len]
    · intro i hi
      rw [n1, l1.2.2.1 i, l2.2.2.1 i, m2, b20_len]
      by_cases g : t ≤ i ∧ i < t + 20
      · rw [if_pos g, if_pos g]
      · rw [if_neg g, if_neg g]
        exact hx i (by omega)
    · intro q a0 a1 a2 a3
      rw [l2.2.2.2.1 q a2 a3, l1.2.2.2.1 q a0 a1]
    · intro j hj
      rw [n0]; exact l1.2.1 j hj
    · intro j hj
      rw [l2.2.1 j hj, m1]
    · exact l2.2.2.2.2.trans l1.2.2.2.2
  · refine ⟨-1, s, s, ?_, ?_, ⟨t, h3, t1, t2, hx⟩, h2⟩
    · rw [e_202 (d := 1998)]
      unfold f_202
      unfold b_202_0
      rw [xg_0_1, t1, show nI t + 20 = nI (t + 20) from nI_add t 20, if_neg (show ¬ nI (t + 20) ≤ (3000 : Int32) from nI_ge (a := 3000) (by omega) (by omega))]
    · rw [e_258 (d := 1998)]
      unfold f_258
      unfold b_258_0
      rw [xg_97_1, t2, show nI t + 20 = nI (t + 20) from nI_add t 20, if_neg (show ¬ nI (t + 20) ≤ (3000 : Int32) from nI_ge (a := 3000) (by omega) (by omega))]
