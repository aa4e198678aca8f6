/-! ===== the law's loop by an invariant ===== -/
theorem bI_s {v : Int32} {hp : mjH} {k : Int32 → mjH → mjU} : bI (some (some (.int v), hp)) k = k v hp := rfl
theorem bN_s {hp : mjH} {k : mjH → mjU} : bN (some (none, hp)) k = k hp := rfl
theorem lp_S (R : mjR) (L : Nat) (xs : Nat → Int32) (n : Nat) (a b : Nat) (i : Int32) (hp : mjH) : L_900_18 R L xs (n + 1) a b i hp = b_900_18 R L xs (L_900_18 R L xs n) a b i hp := rfl
theorem lp_exit {L i : Nat} (hi : i ≤ 4000) (h : L < i + 6) : (Int32.ofNat L - (6 : Int32)) < nI i := by
  by_cases h6 : L < 6
  · refine Int32.lt_of_lt_of_le (b := 0) ?_ (nI_pos' (by omega))
    match L, h6 with
    | 0, _ => decide
    | 1, _ => decide
    | 2, _ => decide
    | 3, _ => decide
    | 4, _ => decide
    | 5, _ => decide
  · have e : Int32.ofNat L - (6 : Int32) = nI (L - 6) := pk_sub (a := L) (b := 6) (by omega)
    rw [e]
    exact nI_lt (by omega) (by omega)
theorem lp_in {L i : Nat} (hL : L ≤ 4000) (h : i + 6 ≤ L) : ¬ (Int32.ofNat L - (6 : Int32)) < nI i := by
  have e : Int32.ofNat L - (6 : Int32) = nI (L - 6) := pk_sub (a := L) (b := 6) (by omega)
  rw [e]
  exact nI_nlt (by omega) (by omega)
theorem mj_in_nI {n N : Nat} (h : n < N) (hN : N < 2 ^ 31) : mj_in (nI n) N = true := by
  have k := nI_in h hN
  unfold mj_in
  simpa using k
theorem lp_x {L i : Nat} {xs : Nat → Int32} {k : Int32 → mjU} (hL : L ≤ 4000) (h : i < L) : aX L xs (nI i) k = k (xs i) := by
  unfold aX
  rw [mj_in_nI h (by omega), nI_clamp (by omega)]
theorem lp_y {L i c : Nat} {xs : Nat → Int32} {k : Int32 → mjU} (hL : L ≤ 4000) (h : i + c < L) : aX L xs (nI i + nI c) k = k (xs (i + c)) := by
  rw [nI_add, lp_x hL h]
/-- one call on both: the same answer, and the invariant holds behind it -/
def PairOK (Inv : mjSt3 → Prop) (jc jm : Nat) (A : List Value) (s : mjSt3) : Prop := ∃ (r : Int32) (s1 s2 : mjSt3), mjF 1999 jc (.ref 0 :: A) (mjW0 s) = some (some (.int r), mjW0 s1) ∧ mjF 1999 jm (.ref 97 :: A) (mjW0 s1) = some (some (.int r), mjW0 s2) ∧ Inv s2
/-- one call on both returns, and the invariant holds behind it -/
def PairGo (Inv : mjSt3 → Prop) (jc jm : Nat) (A : List Value) (s : mjSt3) : Prop := ∃ (r r' : Int32) (s1 s2 : mjSt3), mjF 1999 jc (.ref 0 :: A) (mjW0 s) = some (some (.int r), mjW0 s1) ∧ mjF 1999 jm (.ref 97 :: A) (mjW0 s1) = some (some (.int r'), mjW0 s2) ∧ Inv s2
theorem law_loop {Inv : mjSt3 → Prop} {L : Nat} {xs : Nat → Int32} (hL : L ≤ 3072)
    (p0 : ∀ s, Inv s → ∀ a b c d e : Int32, PairOK Inv 202 258 [.int a, .int b, .int c, .int d, .int e] s)
    (p1 : ∀ s, Inv s → ∀ a b : Int32, (b = 0 ∨ b = 1) → PairGo Inv 204 260 [.int a, .int b] s)
    (p2 : ∀ s, Inv s → ∀ a : Int32, PairGo Inv 206 336 [.int a] s)
    (p3 : ∀ s, Inv s → ∀ a b : Int32, PairOK Inv 207 337 [.int a, .int b] s)
    (p4 : ∀ s, Inv s → ∀ a b c : Int32, PairOK Inv 208 339 [.int a, .int b, .int c] s)
    (p5 : ∀ s, Inv s → ∀ a b : Int32, PairOK Inv 210 340 [.int a, .int b] s)
    (p6 : ∀ s, Inv s → ∀ a : Int32, PairOK Inv 211 229 [.int a] s)
    (p7 : ∀ s, Inv s → ∀ a : Int32, PairOK Inv 212 341 [.int a] s)
    (p8 : ∀ s, Inv s → ∀ a : Int32, PairOK Inv 213 342 [.int a] s)
    (p9 : ∀ s, Inv s → ∀ a b : Int32, PairOK Inv 214 343 [.int a, .int b] s)
    (p10 : ∀ s, Inv s → ∀ a b : Int32, PairOK Inv 215 345 [.int a, .int b] s)
    (p11 : ∀ s, Inv s → ∀ a b : Int32, PairOK Inv 216 346 [.int a, .int b] s)
    (p12 : ∀ s, Inv s → ∀ a b : Int32, PairOK Inv 217 348 [.int a, .int b] s)
    (p13 : ∀ s, Inv s → ∀ a b : Int32, PairOK Inv 218 349 [.int a, .int b] s)
    (p14 : ∀ s, Inv s → ∀ a b : Int32, PairOK Inv 219 350 [.int a, .int b] s)
    (p15 : ∀ s, Inv s → ∀ a b : Int32, PairOK Inv 220 245 [.int a, .int b] s)
    (p16 : ∀ s, Inv s → ∀ a : Int32, PairOK Inv 221 257 [.int a] s)
    (p17 : ∀ s, Inv s → PairOK Inv 222 251 [] s)
    (p18 : ∀ s, Inv s → ∀ a : Int32, PairOK Inv 223 255 [.int a] s)
    (p19 : ∀ s, Inv s → ∀ a b : Int32, PairOK Inv 224 256 [.int a, .int b] s) :
    ∀ (k i n : Nat) (s : mjSt3), Inv s → i ≤ 3078 → L ≤ i + 5 + 6 * k → k < n → ∃ hpE, L_900_18 (mjF 1999) L xs n 0 97 (nI i) (mjW0 s) = some (some (.int 1), hpE) := by
  intro k
  induction k with
  | zero =>
    intro i n s hs hi hk hn
    obtain ⟨n, rfl⟩ : ∃ m, n = m + 1 := ⟨n - 1, by omega⟩
    rw [lp_S]
    unfold b_900_18
    rw [if_pos (lp_exit (by omega) (by omega))]
    exact ⟨_, rfl⟩
  | succ k ih =>
    intro i n s hs hi hk hn
    obtain ⟨n, rfl⟩ : ∃ m, n = m + 1 := ⟨n - 1, by omega⟩
    rw [lp_S]
    unfold b_900_18
    by_cases hE : L < i + 6
    · rw [if_pos (lp_exit (by omega) hE)]
      exact ⟨_, rfl⟩
    rw [if_neg (lp_in (by omega) (by omega)), lp_x (by omega) (by omega)]
    have fin : ∀ s2, Inv s2 → ∃ hpE, b_900_764 (mjF 1999) L xs (L_900_18 (mjF 1999) L xs n) 0 97 (nI i) (mjW0 s2) = some (some (.int 1), hpE) := by
      intro s2 h2
      unfold b_900_764
      rw [show nI i + (6 : Int32) = nI (i + 6) from nI_add i 6]
      exact ih (i + 6) n s2 h2 (by omega) (by omega) (by omega)
    have x1 : ∀ k : Int32 → mjU, aX L xs (nI i + 1) k = k (xs (i + 1)) := fun k => lp_y (c := 1) (by omega) (by omega)
    have x2 : ∀ k : Int32 → mjU, aX L xs (nI i + 2) k = k (xs (i + 2)) := fun k => lp_y (c := 2) (by omega) (by omega)
    have x3 : ∀ k : Int32 → mjU, aX L xs (nI i + 3) k = k (xs (i + 3)) := fun k => lp_y (c := 3) (by omega) (by omega)
    have x4 : ∀ k : Int32 → mjU, aX L xs (nI i + 4) k = k (xs (i + 4)) := fun k => lp_y (c := 4) (by omega) (by omega)
    have x5 : ∀ k : Int32 → mjU, aX L xs (nI i + 5) k = k (xs (i + 5)) := fun k => lp_y (c := 5) (by omega) (by omega)
    generalize xs i &&& 31 = w
    by_cases h0 : w = 0
    · rw [if_pos h0]
      simp only [x1, x2, x3, x4, x5]
      obtain ⟨r, s1, s2, e1, e2, h2⟩ := p0 s hs (xs (i + 1)) (xs (i + 2)) (xs (i + 3)) (xs (i + 4)) (xs (i + 5))
      rw [xV_0, e1, bI_s]
      try simp only [x1, x2, x3, x4, x5]
      rw [xV_97, e2, bI_s, if_pos rfl]
      exact fin s2 h2
    rw [if_neg h0]
    by_cases h1 : w = 1
    · rw [if_pos h1]
      simp only [x1, x2]
      by_cases hb : xs (i + 2) = 0
      · rw [if_pos hb]
        obtain ⟨r, r', s1, s2, e1, e2, h2⟩ := p1 s hs (xs (i + 1)) 0 (Or.inl rfl)
        unfold b_900_210
        rw [xV_0, e1, bI_s]
        try simp only [x1, x2]
        rw [if_pos hb]
        unfold b_900_233
        rw [xV_97, e2, bI_s]
        exact fin s2 h2
      · rw [if_neg hb]
        obtain ⟨r, r', s1, s2, e1, e2, h2⟩ := p1 s hs (xs (i + 1)) 1 (Or.inr rfl)
        unfold b_900_210
        rw [xV_0, e1, bI_s]
        try simp only [x1, x2]
        rw [if_neg hb]
        unfold b_900_233
        rw [xV_97, e2, bI_s]
        exact fin s2 h2
    rw [if_neg h1]
    by_cases h2 : w = 2
    · rw [if_pos h2]
      simp only [x1]
      obtain ⟨r, r', s1, s2, e1, e2, h2⟩ := p2 s hs (xs (i + 1))
      rw [xV_0, e1, bI_s]
      try simp only [x1]
      rw [xV_97, e2, bI_s]
      exact fin s2 h2
    rw [if_neg h2]
    by_cases h3 : w = 3
    · rw [if_pos h3]
      simp only [x1, x2]
      obtain ⟨r, s1, s2, e1, e2, h2⟩ := p3 s hs (xs (i + 1)) (xs (i + 2))
      rw [xV_0, e1, bI_s]
      try simp only [x1, x2]
      rw [xV_97, e2, bI_s]
      exact fin s2 h2
    rw [if_neg h3]
    by_cases h4 : w = 4
    · rw [if_pos h4]
      simp only [x1, x2, x3]
      obtain ⟨r, s1, s2, e1, e2, h2⟩ := p4 s hs (xs (i + 1)) (xs (i + 2)) (xs (i + 3))
      rw [xV_0, e1, bI_s]
      try simp only [x1, x2, x3]
      rw [xV_97, e2, bI_s]
      exact fin s2 h2
    rw [if_neg h4]
    by_cases h5 : w = 5
    · rw [if_pos h5]
      simp only [x1, x2]
      obtain ⟨r, s1, s2, e1, e2, h2⟩ := p5 s hs (xs (i + 1)) (xs (i + 2))
      rw [xV_0, e1, bI_s]
      try simp only [x1, x2]
      rw [xV_97, e2, bI_s]
      exact fin s2 h2
    rw [if_neg h5]
    by_cases h6 : w = 6
    · rw [if_pos h6]
      simp only [x1]
      obtain ⟨r, s1, s2, e1, e2, h2⟩ := p6 s hs (xs (i + 1))
      rw [xV_0, e1, bI_s]
      try simp only [x1]
      rw [xV_97, e2, bI_s]
      exact fin s2 h2
    rw [if_neg h6]
    by_cases h7 : w = 7
    · rw [if_pos h7]
      simp only [x1]
      obtain ⟨r, s1, s2, e1, e2, h2⟩ := p7 s hs (xs (i + 1))
      rw [xV_0, e1, bI_s]
      try simp only [x1]
      rw [xV_97, e2, bI_s]
      exact fin s2 h2
    rw [if_neg h7]
    by_cases h8 : w = 8
    · rw [if_pos h8]
      simp only [x1]
      obtain ⟨r, s1, s2, e1, e2, h2⟩ := p8 s hs (xs (i + 1))
      rw [xV_0, e1, bI_s]
      try simp only [x1]
      rw [xV_97, e2, bI_s]
      exact fin s2 h2
    rw [if_neg h8]
    by_cases h9 : w = 9
    · rw [if_pos h9]
      simp only [x1, x2]
      obtain ⟨r, s1, s2, e1, e2, h2⟩ := p9 s hs (xs (i + 1)) (xs (i + 2))
      rw [xV_0, e1, bI_s]
      try simp only [x1, x2]
      rw [xV_97, e2, bI_s]
      exact fin s2 h2
    rw [if_neg h9]
    by_cases h10 : w = 10
    · rw [if_pos h10]
      simp only [x1, x2]
      obtain ⟨r, s1, s2, e1, e2, h2⟩ := p10 s hs (xs (i + 1)) (xs (i + 2))
      rw [xV_0, e1, bI_s]
      try simp only [x1, x2]
      rw [xV_97, e2, bI_s]
      exact fin s2 h2
    rw [if_neg h10]
    by_cases h11 : w = 11
    · rw [if_pos h11]
      simp only [x1, x2]
      obtain ⟨r, s1, s2, e1, e2, h2⟩ := p11 s hs (xs (i + 1)) (xs (i + 2))
      rw [xV_0, e1, bI_s]
      try simp only [x1, x2]
      rw [xV_97, e2, bI_s]
      exact fin s2 h2
    rw [if_neg h11]
    by_cases h12 : w = 12
    · rw [if_pos h12]
      simp only [x1, x2]
      obtain ⟨r, s1, s2, e1, e2, h2⟩ := p12 s hs (xs (i + 1)) (xs (i + 2))
      rw [xV_0, e1, bI_s]
      try simp only [x1, x2]
      rw [xV_97, e2, bI_s]
      exact fin s2 h2
    rw [if_neg h12]
    by_cases h13 : w = 13
    · rw [if_pos h13]
      simp only [x1, x2]
      obtain ⟨r, s1, s2, e1, e2, h2⟩ := p13 s hs (xs (i + 1)) (xs (i + 2))
      rw [xV_0, e1, bI_s]
      try simp only [x1, x2]
      rw [xV_97, e2, bI_s]
      exact fin s2 h2
    rw [if_neg h13]
    by_cases h14 : w = 14
    · rw [if_pos h14]
      simp only [x1, x2]
      obtain ⟨r, s1, s2, e1, e2, h2⟩ := p14 s hs (xs (i + 1)) (xs (i + 2))
      rw [xV_0, e1, bI_s]
      try simp only [x1, x2]
      rw [xV_97, e2, bI_s]
      exact fin s2 h2
    rw [if_neg h14]
    by_cases h15 : w = 15
    · rw [if_pos h15]
      simp only [x1, x2]
      obtain ⟨r, s1, s2, e1, e2, h2⟩ := p15 s hs (xs (i + 1)) (xs (i + 2))
      rw [xV_0, e1, bI_s]
      try simp only [x1, x2]
      rw [xV_97, e2, bI_s]
      exact fin s2 h2
    rw [if_neg h15]
    by_cases h16 : w = 16
    · rw [if_pos h16]
      simp only [x1]
      obtain ⟨r, s1, s2, e1, e2, h2⟩ := p16 s hs (xs (i + 1))
      rw [xV_0, e1, bI_s]
      try simp only [x1]
      rw [xV_97, e2, bI_s]
      exact fin s2 h2
    rw [if_neg h16]
    by_cases h17 : w = 17
    · rw [if_pos h17]
      obtain ⟨r, s1, s2, e1, e2, h2⟩ := p17 s hs 
      rw [xV_0, e1, bI_s]
      rw [xV_97, e2, bI_s]
      exact fin s2 h2
    rw [if_neg h17]
    by_cases h18 : w = 18
    · rw [if_pos h18]
      simp only [x1]
      obtain ⟨r, s1, s2, e1, e2, h2⟩ := p18 s hs (xs (i + 1))
      rw [xV_0, e1, bI_s]
      try simp only [x1]
      rw [xV_97, e2, bI_s]
      exact fin s2 h2
    rw [if_neg h18]
    by_cases h19 : w = 19
    · rw [if_pos h19]
      simp only [x1, x2]
      obtain ⟨r, s1, s2, e1, e2, h2⟩ := p19 s hs (xs (i + 1)) (xs (i + 2))
      rw [xV_0, e1, bI_s]
      try simp only [x1, x2]
      rw [xV_97, e2, bI_s]
      exact fin s2 h2
    rw [if_neg h19]
    exact fin s hs
/-- THE CLAIM, out of an invariant and the twenty pairs of calls -/
theorem law_all {Inv : mjSt3 → Prop} {L : Nat} {xs : Nat → Int32} (hL : L ≤ 3072) (h0 : Inv s_0)
    (p0 : ∀ s, Inv s → ∀ a b c d e : Int32, PairOK Inv 202 258 [.int a, .int b, .int c, .int d, .int e] s)
    (p1 : ∀ s, Inv s → ∀ a b : Int32, (b = 0 ∨ b = 1) → PairGo Inv 204 260 [.int a, .int b] s)
    (p2 : ∀ s, Inv s → ∀ a : Int32, PairGo Inv 206 336 [.int a] s)
    (p3 : ∀ s, Inv s → ∀ a b : Int32, PairOK Inv 207 337 [.int a, .int b] s)
    (p4 : ∀ s, Inv s → ∀ a b c : Int32, PairOK Inv 208 339 [.int a, .int b, .int c] s)
    (p5 : ∀ s, Inv s → ∀ a b : Int32, PairOK Inv 210 340 [.int a, .int b] s)
    (p6 : ∀ s, Inv s → ∀ a : Int32, PairOK Inv 211 229 [.int a] s)
    (p7 : ∀ s, Inv s → ∀ a : Int32, PairOK Inv 212 341 [.int a] s)
    (p8 : ∀ s, Inv s → ∀ a : Int32, PairOK Inv 213 342 [.int a] s)
    (p9 : ∀ s, Inv s → ∀ a b : Int32, PairOK Inv 214 343 [.int a, .int b] s)
    (p10 : ∀ s, Inv s → ∀ a b : Int32, PairOK Inv 215 345 [.int a, .int b] s)
    (p11 : ∀ s, Inv s → ∀ a b : Int32, PairOK Inv 216 346 [.int a, .int b] s)
    (p12 : ∀ s, Inv s → ∀ a b : Int32, PairOK Inv 217 348 [.int a, .int b] s)
    (p13 : ∀ s, Inv s → ∀ a b : Int32, PairOK Inv 218 349 [.int a, .int b] s)
    (p14 : ∀ s, Inv s → ∀ a b : Int32, PairOK Inv 219 350 [.int a, .int b] s)
    (p15 : ∀ s, Inv s → ∀ a b : Int32, PairOK Inv 220 245 [.int a, .int b] s)
    (p16 : ∀ s, Inv s → ∀ a : Int32, PairOK Inv 221 257 [.int a] s)
    (p17 : ∀ s, Inv s → PairOK Inv 222 251 [] s)
    (p18 : ∀ s, Inv s → ∀ a : Int32, PairOK Inv 223 255 [.int a] s)
    (p19 : ∀ s, Inv s → ∀ a b : Int32, PairOK Inv 224 256 [.int a, .int b] s) :
    ∃ hpE, L_900_18 (mjF 1999) L xs mjN 0 97 0 H_G = some (some (.int 1), hpE) := by
  rw [H_G_eq]
  exact law_loop hL p0 p1 p2 p3 p4 p5 p6 p7 p8 p9 p10 p11 p12 p13 p14 p15 p16 p17 p18 p19 512 0 mjN s_0 h0 (by decide) (by omega) (by decide)
