/-! ===== the law's loop by an invariant ===== -/
theorem bI_s {v : Int32} {hp : mjH} {k : Int32 → mjH → mjU} : bI (some (some (.int v), hp)) k = k v hp := rfl
theorem bN_s {hp : mjH} {k : mjH → mjU} : bN (some (none, hp)) k = k hp := rfl
theorem lp_S (R : mjR) (L : Nat) (xs : Nat → Int32) (n : Nat) (a b : Nat) (i : Int32) (hp : mjH) : L_900_18 R L xs (n + 1) a b i hp = b_900_18 R L xs (L_900_18 R L xs n) a b i hp := rfl
theorem lp_exit {L i : Nat} (hi : i ≤ 4000) (h : L < i + 6) : (Int32.ofNat L - (6 : Int32)) < nI i := by
  by_cases h6 : L < 6
  · refine Int32.lt_of_lt_of_le (b := 0) ?_ (nI_pos' (by omega))
    match L, h6 with
    | 0, _ => decide
    | 1, _ => decide
    | 2, _ => decide
    | 3, _ => decide
    | 4, _ => decide
    | 5, _ => decide
  · have e : Int32.ofNat L - (6 : Int32) = nI (L - 6) := pk_sub (a := L) (b := 6) (by omega)
    rw [e]
    exact nI_lt (by omega) (by omega)
theorem lp_in {L i : Nat} (hL : L ≤ 4000) (h : i + 6 ≤ L) : ¬ (Int32.ofNat L - (6 : Int32)) < nI i := by
  have e : Int32.ofNat L - (6 : Int32) = nI (L - 6) := pk_sub (a := L) (b := 6) (by omega)
  rw [e]
  exact nI_nlt (by omega) (by omega)
theorem mj_in_nI {n N : Nat} (h : n < N) (hN : N < 2 ^ 31) : mj_in (nI n) N = true := by
  have k := nI_in h hN
  unfold mj_in
  simpa using k
theorem lp_x {L i : Nat} {xs : Nat → Int32} {k : Int32 → mjU} (hL : L ≤ 4000) (h : i < L) : aX L xs (nI i) k = k (xs i) := by
  unfold aX
  rw [mj_in_nI h (by omega), nI_clamp (by omega)]
theorem lp_y {L i c : Nat} {xs : Nat → Int32} {k : Int32 → mjU} (hL : L ≤ 4000) (h : i + c < L) : aX L xs (nI i + nI c) k = k (xs (i + c)) := by
  rw [nI_add, lp_x hL h]
/-- one call on both: the same answer, and the invariant holds behind it -/
def PairOK (Inv : mjSt3 → Prop) (jc jm : Nat) (A : List Value) (s : mjSt3) : Prop := ∃ (r : Int32) (s1 s2 : mjSt3), mjF 1999 jc (.ref 0 :: A) (mjW0 s) = some (some (.int r), mjW0 s1) ∧ mjF 1999 jm (.ref 97 :: A) (mjW0 s1) = some (some (.int r), mjW0 s2) ∧ Inv s2
/-- one call on both returns, and the invariant holds behind it -/
def PairGo (Inv : mjSt3 → Prop) (jc jm : Nat) (A : List Value) (s : mjSt3) : Prop := ∃ (r r' : Int32) (s1 s2 : mjSt3), mjF 1999 jc (.ref 0 :: A) (mjW0 s) = some (some (.int r), mjW0 s1) ∧ mjF 1999 jm (.ref 97 :: A) (mjW0 s1) = some (some (.int r'), mjW0 s2) ∧ Inv s2
