/-! ===== KINDS as numbers: 32768 times the CLASS, three bits an OWNER (0 to 4 NAMES, 5 world, 6 this) ===== -/
/-- the first place below n where p holds -/
def fnd (p : Nat → Bool) : Nat → Option Nat
  | 0 => none
  | n + 1 => match fnd p n with
    | some i => some i
    | none => if p n = true then some n else none
theorem fnd_none {p : Nat → Bool} : ∀ {n : Nat}, fnd p n = none ↔ ∀ j, j < n → p j = false
  | 0 => ⟨fun _ j h => absurd h (by omega), fun _ => rfl⟩
  | n + 1 => by
    unfold fnd
    constructor
    · intro h j hj
      cases e : fnd p n with
      | some i => rw [e] at h; cases h
      | none =>
        rw [e] at h
        by_cases g : p n = true
        · simp only [if_pos g] at h; cases h
        · by_cases e2 : j = n
          · subst e2; simpa using g
          · exact fnd_none.mp e j (by omega)
    · intro h
      rw [fnd_none.mpr (fun j hj => h j (by omega))]
      simp only [h n (by omega)]
      rfl
theorem fnd_some {p : Nat → Bool} : ∀ {n i : Nat}, fnd p n = some i ↔ i < n ∧ p i = true ∧ ∀ j, j < i → p j = false
  | 0, i => ⟨fun h => (by cases h), fun h => absurd h.1 (by omega)⟩
  | n + 1, i => by
    unfold fnd
    constructor
    · intro h
      cases e : fnd p n with
      | some k =>
        rw [e] at h
        cases h
        obtain ⟨a, b, c⟩ := fnd_some.mp e
        exact ⟨by omega, b, c⟩
      | none =>
        rw [e] at h
        by_cases g : p n = true
        · simp only [if_pos g] at h
          cases h
          exact ⟨by omega, g, fnd_none.mp e⟩
        · simp only [if_neg g] at h; cases h
    · intro ⟨a, b, c⟩
      by_cases e : i = n
      · subst e
        rw [fnd_none.mpr c]
        simp only [if_pos b]
      · rw [fnd_some.mpr ⟨by omega, b, c⟩]
theorem fnd_lt {p : Nat → Bool} {n i : Nat} (h : fnd p n = some i) : i < n := (fnd_some.mp h).1
theorem fnd_cg {p p' : Nat → Bool} : ∀ {n : Nat}, (∀ i, i < n → p i = p' i) → fnd p n = fnd p' n
  | 0, _ => rfl
  | n + 1, h => by
    unfold fnd
    rw [fnd_cg (n := n) (fun i hi => h i (by omega)), h n (by omega)]
def oI (o : Option Nat) : Int32 := match o with
  | none => -1
  | some i => nI i
theorem oI_n : oI none = -1 := rfl
theorem oI_s (i : Nat) : oI (some i) = nI i := rfl
theorem oI_m1 {o : Option Nat} (h : ∀ i, o = some i → i < 2 ^ 31) : oI o = -1 ↔ o = none := by
  cases o with
  | none => exact ⟨fun _ => rfl, fun _ => rfl⟩
  | some i => exact ⟨fun e => absurd e (nI_m1 (h i rfl)), fun e => (by cases e)⟩
/-- the CLASS and OWNER i of a KIND -/
def cK (k : Nat) : Nat := k / 32768
def oK (k i : Nat) : Nat := k / 8 ^ i % 8
def mkS (f : Nat → Nat) : Nat → Nat
  | 0 => 0
  | n + 1 => mkS f n + f n * 8 ^ n
def mkK (c n : Nat) (f : Nat → Nat) : Nat := c * 32768 + mkS f n
theorem mkS_lt {f : Nat → Nat} : ∀ {n : Nat}, (∀ i, i < n → f i < 8) → mkS f n < 8 ^ n
  | 0, _ => by show 0 < 1; omega
  | n + 1, h => by
    have a := mkS_lt (n := n) (fun i hi => h i (by omega))
    have b := h n (by omega)
    have c : f n * 8 ^ n ≤ 7 * 8 ^ n := Nat.mul_le_mul_right _ (by omega)
    have e : mkS f (n + 1) = mkS f n + f n * 8 ^ n := rfl
    rw [e, Nat.pow_succ]
    omega
theorem mkS_at {f : Nat → Nat} : ∀ {n i : Nat}, (∀ j, j < n → f j < 8) → i < n → mkS f n / 8 ^ i % 8 = f i
  | 0, i, _, h => by omega
  | n + 1, i, h, hi => by
    have e : mkS f (n + 1) = mkS f n + f n * 8 ^ n := rfl
    by_cases g : i = n
    · subst g
      have l := mkS_lt (f := f) (n := i) (fun j hj => h j (by omega))
      rw [e, Nat.add_mul_div_right _ _ (Nat.pow_pos (by omega)), Nat.div_eq_of_lt l]
      have := h i (by omega)
      omega
    · have p : 8 ^ n = 8 ^ (n - i - 1) * 8 * 8 ^ i := by
        rw [← Nat.pow_succ, ← Nat.pow_add]
        congr 1
        omega
      rw [e, p, ← Nat.mul_assoc, Nat.add_mul_div_right _ _ (Nat.pow_pos (by omega)), ← Nat.mul_assoc, Nat.add_mul_mod_self_right]
      exact mkS_at (n := n) (fun j hj => h j (by omega)) (by omega)
theorem p8_le {n : Nat} (h : n ≤ 5) : 8 ^ n ≤ 32768 := Nat.pow_le_pow_right (n := 8) (by omega) h
section MJA2
variable {c n i : Nat} {f : Nat → Nat}
theorem mkK_c (hn : n ≤ 5) (hf : ∀ i, i < n → f i < 8) : cK (mkK c n f) = c := by
  unfold cK mkK
  have := mkS_lt hf
  have := p8_le hn
  omega
theorem pow_div {i : Nat} (hi : i ≤ 5) : ∃ m, 32768 = m * 8 ^ i ∧ (i < 5 → ∃ r, m = r * 8) := by
  refine ⟨8 ^ (5 - i), ?_, fun h => ⟨8 ^ (4 - i), ?_⟩⟩
  · rw [← Nat.pow_add, show 5 - i + i = 5 by omega]
  · rw [← Nat.pow_succ]
    congr 1
    omega
theorem mkK_o (hn : n ≤ 5) (hf : ∀ i, i < n → f i < 8) (hi : i < n) : oK (mkK c n f) i = f i := by
  unfold oK mkK
  obtain ⟨m, e, r⟩ := pow_div (i := i) (by omega)
  obtain ⟨r, er⟩ := r (by omega)
  rw [e, Nat.add_comm, ← Nat.mul_assoc, Nat.add_mul_div_right _ _ (Nat.pow_pos (by omega)), er, ← Nat.mul_assoc, Nat.add_mul_mod_self_right]
  exact mkS_at hf hi
theorem mkK_z (hn : n ≤ 5) (hf : ∀ i, i < n → f i < 8) (hi : n ≤ i) (h5 : i < 5) : oK (mkK c n f) i = 0 := by
  unfold oK mkK
  obtain ⟨m, e, r⟩ := pow_div (i := i) (by omega)
  obtain ⟨r, er⟩ := r (by omega)
  have l : mkS f n < 8 ^ i := Nat.lt_of_lt_of_le (mkS_lt hf) (Nat.pow_le_pow_right (n := 8) (by omega) hi)
  rw [e, Nat.add_comm, ← Nat.mul_assoc, Nat.add_mul_div_right _ _ (Nat.pow_pos (by omega)), er, ← Nat.mul_assoc, Nat.add_mul_mod_self_right, Nat.div_eq_of_lt l]
theorem mkK_lt (hn : n ≤ 5) (hf : ∀ i, i < n → f i < 8) (hc : c < 16) : mkK c n f < 524288 := by
  unfold mkK
  have := mkS_lt hf
  have := p8_le hn
  omega
theorem oK_lt (k i : Nat) : oK k i < 8 := Nat.mod_lt _ (by omega)
theorem mkS_cg {f g : Nat → Nat} : ∀ {n : Nat}, (∀ i, i < n → f i = g i) → mkS f n = mkS g n
  | 0, _ => rfl
  | n + 1, h => by
    show mkS f n + f n * 8 ^ n = mkS g n + g n * 8 ^ n
    rw [mkS_cg (n := n) (fun i hi => h i (by omega)), h n (by omega)]
theorem mkK_cg {g : Nat → Nat} (h : ∀ i, i < n → f i = g i) : mkK c n f = mkK c n g := by
  unfold mkK
  rw [mkS_cg h]
theorem mkK_eq {c' : Nat} {g : Nat → Nat} (hn : n ≤ 5) (hf : ∀ i, i < n → f i < 8) (hg : ∀ i, i < n → g i < 8) : mkK c n f = mkK c' n g ↔ c = c' ∧ ∀ i, i < n → f i = g i := by
  constructor
  · intro e
    refine ⟨?_, fun i hi => ?_⟩
    · have := mkK_c (c := c) hn hf
      rw [e, mkK_c hn hg] at this
      exact this.symm
    · rw [← mkK_o (c := c) hn hf hi, e, mkK_o hn hg hi]
  · intro ⟨e, h⟩
    rw [e]
    exact mkK_cg h
end MJA2
/-- a TYPE: 0 int, 1 null, a KIND and 2 -/
def tyI (t : Nat) : Int32 := match t with
  | 0 => -1
  | 1 => -2
  | k + 2 => nI k
theorem tyI_neg {t : Nat} (h : t < 524290) : tyI t < 0 ↔ t < 2 := by
  match t, h with
  | 0, _ => decide
  | 1, _ => decide
  | k + 2, h => exact ⟨fun e => absurd e (nI_pos (by omega)), fun e => by omega⟩
theorem tyI_eq {t u : Nat} (ht : t < 524290) (hu : u < 524290) : tyI t = tyI u ↔ t = u := by
  match t, u, ht, hu with
  | 0, 0, _, _ => exact ⟨fun _ => rfl, fun _ => rfl⟩
  | 0, 1, _, _ => decide
  | 1, 0, _, _ => decide
  | 1, 1, _, _ => exact ⟨fun _ => rfl, fun _ => rfl⟩
  | 0, k + 2, _, h => exact ⟨fun e => absurd e.symm (nI_m1 (by omega)), fun e => by omega⟩
  | k + 2, 0, h, _ => exact ⟨fun e => absurd e (nI_m1 (by omega)), fun e => by omega⟩
  | 1, k + 2, _, h => exact ⟨fun e => absurd (show nI k < 0 by rw [← show (-2 : Int32) = nI k from e]; decide) (nI_pos (by omega)), fun e => by omega⟩
  | k + 2, 1, h, _ => exact ⟨fun e => absurd (show nI k < 0 by rw [show nI k = (-2 : Int32) from e]; decide) (nI_pos (by omega)), fun e => by omega⟩
  | k + 2, j + 2, h1, h2 =>
    have := nI_eq (a := k) (b := j) (by omega) (by omega)
    exact ⟨fun e => by have := this.mp e; omega, fun e => this.mpr (by omega)⟩
