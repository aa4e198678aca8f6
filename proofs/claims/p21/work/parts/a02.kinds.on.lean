section
/-! ===== KINDS as numbers: 32768 times the CLASS, three bits an OWNER (0 to 4 NAMES, 5 world, 6 this) ===== -/
/-- the first place below n where p holds -/
def fnd (p : Nat → Bool) : Nat → Option Nat
  | 0 => none
  | n + 1 => match fnd p n with
    | some i => some i
    | none => if p n = true then some n else none
theorem fnd_none {p : Nat → Bool} : ∀ {n : Nat}, fnd p n = none ↔ ∀ j, j < n → p j = false
  | 0 => ⟨fun _ j h => absurd h (by omega), fun _ => rfl⟩
  | n + 1 => by
    unfold fnd
    constructor
    · intro h j hj
      cases e : fnd p n with
      | some i => rw [e] at h; cases h
      | none =>
        rw [e] at h
        by_cases g : p n = true
        · simp only [if_pos g] at h; cases h
        · by_cases e2 : j = n
          · subst e2; simpa using g
          · exact fnd_none.mp e j (by omega)
    · intro h
      rw [fnd_none.mpr (fun j hj => h j (by omega))]
      simp only [h n (by omega)]
      rfl
theorem fnd_some {p : Nat → Bool} : ∀ {n i : Nat}, fnd p n = some i ↔ i < n ∧ p i = true ∧ ∀ j, j < i → p j = false
  | 0, i => ⟨fun h => (by cases h), fun h => absurd h.1 (by omega)⟩
  | n + 1, i => by
    unfold fnd
    constructor
    · intro h
      cases e : fnd p n with
      | some k =>
        rw [e] at h
        cases h
        obtain ⟨a, b, c⟩ := fnd_some.mp e
        exact ⟨by omega, b, c⟩
      | none =>
        rw [e] at h
        by_cases g : p n = true
        · simp only [if_pos g] at h
          cases h
          exact ⟨by omega, g, fnd_none.mp e⟩
        · simp only [if_neg g] at h; cases h
    · intro ⟨a, b, c⟩
      by_cases e : i = n
      · subst e
        rw [fnd_none.mpr c]
        simp only [if_pos b]
      · rw [fnd_some.mpr ⟨by omega, b, c⟩]
theorem fnd_lt {p : Nat → Bool} {n i : Nat} (h : fnd p n = some i) : i < n := (fnd_some.mp h).1
theorem fnd_cg {p p' : Nat → Bool} : ∀ {n : Nat}, (∀ i, i < n → p i = p' i) → fnd p n = fnd p' n
  | 0, _ => rfl
  | n + 1, h => by
    unfold fnd
    rw [fnd_cg (n := n) (fun i hi => h i (by omega)), h n (by omega)]
def oI (o : Option Nat) : Int32 := match o with
  | none => -1
  | some i => nI i
theorem oI_n : oI none = -1 := rfl
theorem oI_s (i : Nat) : oI (some i) = nI i := rfl
theorem oI_m1 {o : Option Nat} (h : ∀ i, o = some i → i < 2 ^ 31) : oI o = -1 ↔ o = none := by
  cases o with
  | none => exact ⟨fun _ => rfl, fun _ => rfl⟩
  | some i => exact ⟨fun e => absurd e (nI_m1 (h i rfl)), fun e => (by cases e)⟩
/-- the CLASS and OWNER i of a KIND -/
def cK (k : Nat) : Nat := k / 32768
def oK (k i : Nat) : Nat := k / 8 ^ i % 8
def mkS (f : Nat → Nat) : Nat → Nat
  | 0 => 0
  | n + 1 => mkS f n + f n * 8 ^ n
def mkK (c n : Nat) (f : Nat → Nat) : Nat := c * 32768 + mkS f n
theorem mkS_lt {f : Nat → Nat} : ∀ {n : Nat}, (∀ i, i < n → f i < 8) → mkS f n < 8 ^ n
  | 0, _ => by show 0 < 1; omega
  | n + 1, h => by
    have a := mkS_lt (n := n) (fun i hi => h i (by omega))
    have b := h n (by omega)
    have c : f n * 8 ^ n ≤ 7 * 8 ^ n := Nat.mul_le_mul_right _ (by omega)
    have e : mkS f (n + 1) = mkS f n + f n * 8 ^ n := rfl
    rw [e, Nat.pow_succ]
    omega
theorem mkS_at {f : Nat → Nat} : ∀ {n i : Nat}, (∀ j, j < n → f j < 8) → i < n → mkS f n / 8 ^ i % 8 = f i
  | 0, i, _, h => by omega
  | n + 1, i, h, hi => by
    have e : mkS f (n + 1) = mkS f n + f n * 8 ^ n := rfl
    by_cases g : i = n
    · subst g
      have l := mkS_lt (f := f) (n := i) (fun j hj => h j (by omega))
      rw [e, Nat.add_mul_div_right _ _ (Nat.pow_pos (by omega)), Nat.div_eq_of_lt l]
      have := h i (by omega)
      omega
    · have p : 8 ^ n = 8 ^ (n - i - 1) * 8 * 8 ^ i := by
        rw [← Nat.pow_succ, ← Nat.pow_add]
        congr 1
        omega
      rw [e, p, ← Nat.mul_assoc, Nat.add_mul_div_right _ _ (Nat.pow_pos (by omega)), ← Nat.mul_assoc, Nat.add_mul_mod_self_right]
      exact mkS_at (n := n) (fun j hj => h j (by omega)) (by omega)
theorem p8_le {n : Nat} (h : n ≤ 5) : 8 ^ n ≤ 32768 := Nat.pow_le_pow_right (n := 8) (by omega) h
section MJA2
variable {c n i : Nat} {f : Nat → Nat}
theorem mkK_c (hn : n ≤ 5) (hf : ∀ i, i < n → f i < 8) : cK (mkK c n f) = c := by
  unfold cK mkK
  have := mkS_lt hf
  have := p8_le hn
  omega
theorem pow_div {i : Nat} (hi : i ≤ 5) : ∃ m, 32768 = m * 8 ^ i ∧ (i < 5 → ∃ r, m = r * 8) := by
  refine ⟨8 ^ (5 - i), ?_, fun h => ⟨8 ^ (4 - i), ?_⟩⟩
  · rw [← Nat.pow_add, show 5 - i + i = 5 by omega]
  · rw [← Nat.pow_succ]
    congr 1
    omega
theorem mkK_o (hn : n ≤ 5) (hf : ∀ i, i < n → f i < 8) (hi : i < n) : oK (mkK c n f) i = f i := by
  unfold oK mkK
  obtain ⟨m, e, r⟩ := pow_div (i := i) (by omega)
  obtain ⟨r, er⟩ := r (by omega)
  rw [e, Nat.add_comm, ← Nat.mul_assoc, Nat.add_mul_div_right _ _ (Nat.pow_pos (by omega)), er, ← Nat.mul_assoc, Nat.add_mul_mod_self_right]
  exact mkS_at hf hi
theorem mkK_z (hn : n ≤ 5) (hf : ∀ i, i < n → f i < 8) (hi : n ≤ i) (h5 : i < 5) : oK (mkK c n f) i = 0 := by
  unfold oK mkK
  obtain ⟨m, e, r⟩ := pow_div (i := i) (by omega)
  obtain ⟨r, er⟩ := r (by omega)
  have l : mkS f n < 8 ^ i := Nat.lt_of_lt_of_le (mkS_lt hf) (Nat.pow_le_pow_right (n := 8) (by omega) hi)
  rw [e, Nat.add_comm, ← Nat.mul_assoc, Nat.add_mul_div_right _ _ (Nat.pow_pos (by omega)), er, ← Nat.mul_assoc, Nat.add_mul_mod_self_right, Nat.div_eq_of_lt l]
theorem mkK_lt (hn : n ≤ 5) (hf : ∀ i, i < n → f i < 8) (hc : c < 16) : mkK c n f < 524288 := by
  unfold mkK
  have := mkS_lt hf
  have := p8_le hn
  omega
theorem oK_lt (k i : Nat) : oK k i < 8 := Nat.mod_lt _ (by omega)
theorem mkS_cg {f g : Nat → Nat} : ∀ {n : Nat}, (∀ i, i < n → f i = g i) → mkS f n = mkS g n
  | 0, _ => rfl
  | n + 1, h => by
    show mkS f n + f n * 8 ^ n = mkS g n + g n * 8 ^ n
    rw [mkS_cg (n := n) (fun i hi => h i (by omega)), h n (by omega)]
theorem mkK_cg {g : Nat → Nat} (h : ∀ i, i < n → f i = g i) : mkK c n f = mkK c n g := by
  unfold mkK
  rw [mkS_cg h]
theorem mkK_eq {c' : Nat} {g : Nat → Nat} (hn : n ≤ 5) (hf : ∀ i, i < n → f i < 8) (hg : ∀ i, i < n → g i < 8) : mkK c n f = mkK c' n g ↔ c = c' ∧ ∀ i, i < n → f i = g i := by
  constructor
  · intro e
    refine ⟨?_, fun i hi => ?_⟩
    · have := mkK_c (c := c) hn hf
      rw [e, mkK_c hn hg] at this
      exact this.symm
    · rw [← mkK_o (c := c) hn hf hi, e, mkK_o hn hg hi]
  · intro ⟨e, h⟩
    rw [e]
    exact mkK_cg h
end MJA2
/-- a TYPE: 0 int, 1 null, a KIND and 2 -/
def tyI (t : Nat) : Int32 := match t with
  | 0 => -1
  | 1 => -2
  | k + 2 => nI k
theorem tyI_neg {t : Nat} (h : t < 524290) : tyI t < 0 ↔ t < 2 := by
  match t, h with
  | 0, _ => decide
  | 1, _ => decide
  | k + 2, h => exact ⟨fun e => absurd e (nI_pos (by omega)), fun e => by omega⟩
theorem tyI_eq {t u : Nat} (ht : t < 524290) (hu : u < 524290) : tyI t = tyI u ↔ t = u := by
  match t, u, ht, hu with
  | 0, 0, _, _ => exact ⟨fun _ => rfl, fun _ => rfl⟩
  | 0, 1, _, _ => decide
  | 1, 0, _, _ => decide
  | 1, 1, _, _ => exact ⟨fun _ => rfl, fun _ => rfl⟩
  | 0, k + 2, _, h => exact ⟨fun e => absurd e.symm (nI_m1 (by omega)), fun e => by omega⟩
  | k + 2, 0, h, _ => exact ⟨fun e => absurd e (nI_m1 (by omega)), fun e => by omega⟩
  | 1, k + 2, _, h => exact ⟨fun e => absurd (show nI k < 0 by rw [← show (-2 : Int32) = nI k from e]; decide) (nI_pos (by omega)), fun e => by omega⟩
  | k + 2, 1, h, _ => exact ⟨fun e => absurd (show nI k < 0 by rw [show nI k = (-2 : Int32) from e]; decide) (nI_pos (by omega)), fun e => by omega⟩
  | k + 2, j + 2, h1, h2 =>
    have := nI_eq (a := k) (b := j) (by omega) (by omega)
    exact ⟨fun e => by have := this.mp e; omega, fun e => this.mpr (by omega)⟩
end
section
/-! ===== the class's arithmetic of KINDS ===== -/
def b2 (b : Bool) : Int32 := if b = true then 1 else 0
theorem b2_nar (b : Bool) : narrow .boolean (.int (b2 b)) = .int (b2 b) := by cases b <;> decide
theorem b2_z {b : Bool} : b2 b = 0 ↔ b = false := by cases b <;> decide
theorem b2_i {b : Bool} {α : Type} (x y : α) : (if b2 b = 0 then x else y) = if b = true then y else x := by cases b <;> rfl
theorem nI_or (a b : Nat) : nI a ||| nI b = nI (a ||| b) := by
  apply Int32.toBitVec_inj.mp
  simp [nI, BitVec.ofNat_or]
theorem nI_mul (a b : Nat) : nI a * nI b = nI (a * b) := (Int32.ofNat_mul a b).symm
theorem or_add {i k o c : Nat} (hi : i ≤ 4) (hk : k < 8 ^ i) (ho : o < 8) : (c * 32768 + k) ||| (o * 8 ^ i) = c * 32768 + (k + o * 8 ^ i) := by
  have e : 8 ^ i = 2 ^ (3 * i) := by rw [Nat.pow_mul]
  have l5 : 2 ^ (3 * i) * o + k < 2 ^ 15 := by
    have a : 2 ^ (3 * i) * o ≤ 2 ^ (3 * i) * 7 := Nat.mul_le_mul_left _ (by omega)
    have b : 2 ^ (3 * i) * 8 ≤ 2 ^ 15 := by
      rw [show (8 : Nat) = 2 ^ 3 from rfl, ← Nat.pow_add]
      exact Nat.pow_le_pow_right (by omega) (by omega)
    rw [e] at hk
    omega
  rw [e] at hk ⊢
  have h1 : c * 32768 + k = 2 ^ 15 * c ||| k := by
    rw [← Nat.two_pow_add_eq_or_of_lt (i := 15) (b := k) (by omega) c]
    omega
  have h2 : 2 ^ (3 * i) * o ||| k = 2 ^ (3 * i) * o + k := (Nat.two_pow_add_eq_or_of_lt hk o).symm
  rw [h1, Nat.mul_comm o, Nat.or_assoc, Nat.or_comm k, h2, ← Nat.two_pow_add_eq_or_of_lt l5 c]
  omega
section MJA3
variable {d c i k o n : Nat} {hp : mjH} {f : Nat → Nat}
theorem x_105 (h : k < 2 ^ 31) : mjF (d + 1) 105 [.int (nI k)] hp = some (some (.int (nI (cK k))), hp) := by
  rw [e_105]
  unfold f_105 b_105_0
  rw [pk_shrN h _ 15 (by decide)]
  rfl
theorem x_102 (h : c < 16) : mjF (d + 1) 102 [.int (nI c)] hp = some (some (.int (nI (mkK c 0 f))), hp) := by
  rw [e_102]
  unfold f_102 b_102_0
  rw [pk_shlN _ 15 (by decide) (by omega), show mkK c 0 f = c * 2 ^ 15 by unfold mkK mkS; omega]
theorem x_106 (h : k < 2 ^ 31) (hi : i ≤ 4) : mjF (d + 1) 106 [.int (nI k), .int (nI i)] hp = some (some (.int (nI (oK k i))), hp) := by
  rw [e_106]
  unfold f_106 b_106_0
  have g : ∀ j, (h3 : ((((3 : Int32) * nI i) &&& 31).toBitVec.smod 32).toNat = j) → 2 ^ j = 8 ^ i → ((nI k >>> (((3 : Int32) * nI i) &&& 31)) &&& (7 : Int32)) = nI (oK k i) := by
    intro j h3 h8
    rw [pk_shrN h _ j h3, pk_andN (Nat.lt_of_le_of_lt (Nat.div_le_self _ _) (by omega)) 3 (by decide), h8]
    rfl
  match i, hi, g with
  | 0, _, g => rw [g 0 (by decide) (by decide)]
  | 1, _, g => rw [g 3 (by decide) (by decide)]
  | 2, _, g => rw [g 6 (by decide) (by decide)]
  | 3, _, g => rw [g 9 (by decide) (by decide)]
  | 4, _, g => rw [g 12 (by decide) (by decide)]
theorem x_103 (hi : i ≤ 4) (hf : ∀ j, j < i + 1 → f j < 8) (hc : c < 16) : mjF (d + 1) 103 [.int (nI (mkK c i f)), .int (nI i), .int (nI (f i))] hp = some (some (.int (nI (mkK c (i + 1) f))), hp) := by
  rw [e_103]
  unfold f_103 b_103_0
  have ho := hf i (by omega)
  have hk : mkS f i < 8 ^ i := mkS_lt (fun j hj => hf j (by omega))
  have g : ∀ j, (h3 : ((((3 : Int32) * nI i) &&& 31).toBitVec.smod 32).toNat = j) → 2 ^ j = 8 ^ i → nI (mkK c i f) ||| (nI (f i) <<< (((3 : Int32) * nI i) &&& 31)) = nI (mkK c (i + 1) f) := by
    intro j h3 h8
    have l : f i * 2 ^ j < 2 ^ 32 := by
      have a : 8 ^ i ≤ 8 ^ 4 := Nat.pow_le_pow_right (by omega) hi
      have b : f i * 2 ^ j ≤ 7 * 8 ^ 4 := Nat.mul_le_mul (by omega) (by rw [h8]; exact a)
      omega
    rw [pk_shlN _ j h3 l, nI_or, h8]
    unfold mkK
    rw [or_add hi hk ho]
    rfl
  match i, hi, g with
  | 0, _, g => rw [g 0 (by decide) (by decide)]
  | 1, _, g => rw [g 3 (by decide) (by decide)]
  | 2, _, g => rw [g 6 (by decide) (by decide)]
  | 3, _, g => rw [g 9 (by decide) (by decide)]
  | 4, _, g => rw [g 12 (by decide) (by decide)]
end MJA3
/-- how many NAMES each CLASS has -/
def pnm (q : Nat) (s : mjSt3) (nm : Nat → Nat) : Prop := ∀ c, c < 16 → s.1 (q + 1) c = nI (nm c) ∧ nm c ≤ 5
def own (nm : Nat → Nat) (c : Nat) : Nat := mkK c (nm c) (fun i => i)
def stand (nm : Nat → Nat) (k v : Nat) : Nat := mkK (cK k) (nm (cK k)) (fun i => if oK k i < 5 then oK v (oK k i) else oK k i)
def hTs (k : Nat) : Nat → Bool
  | 0 => false
  | n + 1 => hTs k n || decide (oK k n = 6)
/-- a TYPE that has this -/
def hasT (t : Nat) : Bool := match t with
  | k + 2 => hTs k 5
  | _ => false
theorem st_f {k v i : Nat} : (if oK k i < 5 then oK v (oK k i) else oK k i) < 8 := by
  by_cases h : oK k i < 5
  · rw [if_pos h]; exact oK_lt _ _
  · rw [if_neg h]; exact oK_lt _ _
section MJA3b
variable {d q c i k o n v : Nat} {s : mjSt3} {nm : Nat → Nat} {hp : mjH}
theorem L111_S (R : mjR) (n a : Nat) (b e f : Int32) (hp : mjH) : L_111_7 R (n + 1) a b e f hp = b_111_7 R (L_111_7 R n) a b e f hp := rfl
theorem lq_111 (hq : isP q) (hn : pnm q s nm) (hc : c < 16) : ∀ (k i n : Nat), i + k = nm c → k < n → L_111_7 (mjF (d + 1)) n q (nI c) (nI (mkK c i (fun j => j))) (nI i) (mjW0 s) = some (some (.int (nI (own nm c))), mjW0 s)
  | 0, i, n + 1, h, _ => by
    have h5 := (hn c hc).2
    rw [L111_S]
    unfold b_111_7
    rw [yg_1 hq, wya_1 hq hc, (hn c hc).1, if_pos (nI_le (by omega) (by omega)), show i = nm c by omega]
    rfl
  | k + 1, i, n + 1, h, hk => by
    have h5 := (hn c hc).2
    rw [L111_S]
    unfold b_111_7
    rw [yg_1 hq, wya_1 hq hc, (hn c hc).1, if_neg (nI_ge (by omega) (by omega))]
    have e := x_103 (d := d) (c := c) (i := i) (f := fun j => j) (hp := mjW0 s) (by omega) (fun j hj => by show j < 8; omega) hc
    rw [e, bI_s, nI_1]
    exact lq_111 hq hn hc k (i + 1) n (by omega) (by omega)
theorem x_ownK (hq : isP q) (hn : pnm q s nm) (hc : c < 16) : mjF (d + 2) 111 [.ref q, .int (nI c)] (mjW0 s) = some (some (.int (nI (own nm c))), mjW0 s) := by
  rw [e_111]
  unfold f_111 b_111_0
  rw [x_102 (f := fun j => j) hc, bI_s]
  exact lq_111 hq hn hc (nm c) 0 mjN (by omega) (by have := (hn c hc).2; have := mjN_v; omega)
theorem L112_S (R : mjR) (n a : Nat) (b e f g i : Int32) (hp : mjH) : L_112_24 R (n + 1) a b e f g i hp = b_112_24 R (L_112_24 R n) a b e f g i hp := rfl
theorem lq_112 (hq : isP q) (hn : pnm q s nm) (hk0 : k < 2 ^ 31) (hv : v < 2 ^ 31) (hc : cK k < 16) : ∀ (r i n : Nat), i + r = nm (cK k) → r < n → L_112_24 (mjF (d + 1)) n q (nI k) (nI v) (nI (cK k)) (nI (mkK (cK k) i (fun i => if oK k i < 5 then oK v (oK k i) else oK k i))) (nI i) (mjW0 s) = some (some (.int (nI (stand nm k v))), mjW0 s)
  | 0, i, n + 1, h, _ => by
    have h5 := (hn _ hc).2
    rw [L112_S]
    unfold b_112_24
    rw [yg_1 hq, wya_1 hq hc, (hn _ hc).1, if_pos (nI_le (by omega) (by omega)), show i = nm (cK k) by omega]
    rfl
  | r + 1, i, n + 1, h, hr => by
    have h5 := (hn _ hc).2
    have o8 := oK_lt k i
    rw [L112_S]
    unfold b_112_24
    rw [yg_1 hq, wya_1 hq hc, (hn _ hc).1, if_neg (nI_ge (by omega) (by omega)), x_106 hk0 (by omega), bI_s]
    have e := x_103 (d := d) (c := cK k) (i := i) (f := fun i => if oK k i < 5 then oK v (oK k i) else oK k i) (hp := mjW0 s) (by omega) (fun j hj => st_f) hc
    by_cases g : oK k i < 5
    · rw [if_neg (show ¬ (5 : Int32) ≤ nI (oK k i) from nI_ge (b := 5) g (by decide)), x_106 hv (by omega), bI_s]
      unfold b_112_64
      simp only [if_pos g] at e
      rw [e, bI_s, nI_1]
      exact lq_112 hq hn hk0 hv hc r (i + 1) n (by omega) (by omega)
    · rw [if_pos (show (5 : Int32) ≤ nI (oK k i) from nI_le (a := 5) (by omega) (by omega))]
      unfold b_112_64
      simp only [if_neg g] at e
      rw [e, bI_s, nI_1]
      exact lq_112 hq hn hk0 hv hc r (i + 1) n (by omega) (by omega)
theorem x_stand (hq : isP q) (hn : pnm q s nm) (hk : k < 2 ^ 31) (hv : v < 2 ^ 31) (hc : cK k < 16) : mjF (d + 2) 112 [.ref q, .int (nI k), .int (nI v)] (mjW0 s) = some (some (.int (nI (stand nm k v))), mjW0 s) := by
  rw [e_112]
  unfold f_112 b_112_0
  rw [if_neg (nI_pos hk), if_pos (nI_pos' hv), x_105 hk, bI_s, x_102 (f := fun i => if oK k i < 5 then oK v (oK k i) else oK k i) hc, bI_s]
  exact lq_112 hq hn hk hv hc (nm (cK k)) 0 mjN (by omega) (by have := (hn _ hc).2; have := mjN_v; omega)
theorem x_standN {a b : Int32} (h : a < 0) : mjF (d + 1) 112 [.ref q, .int a, .int b] hp = some (some (.int a), hp) := by
  rw [e_112]
  unfold f_112 b_112_0 b_112_8
  rw [if_pos h]
theorem L122_S (R : mjR) (n : Nat) (b e f : Int32) (hp : mjH) : L_122_4 R (n + 1) b e f hp = b_122_4 R (L_122_4 R n) b e f hp := rfl
theorem lq_122 (hk : k < 2 ^ 31) : ∀ (r i n : Nat), i + r = 5 → r < n → L_122_4 (mjF (d + 1)) n (nI k) (b2 (hTs k i)) (nI i) hp = some (some (.int (b2 (hTs k 5))), hp)
  | 0, i, n + 1, h, _ => by
    rw [L122_S, show i = 5 by omega]
    unfold b_122_4 b_122_39
    rw [if_pos (show (5 : Int32) ≤ nI 5 by decide), if_pos (b2_nar _)]
  | r + 1, i, n + 1, h, hr => by
    have ih := lq_122 hk r (i + 1) n (by omega) (by omega)
    have e : hTs k (i + 1) = (hTs k i || decide (oK k i = 6)) := rfl
    rw [L122_S]
    unfold b_122_4 b_122_27 b_122_32
    rw [if_neg (show ¬ (5 : Int32) ≤ nI i from nI_ge (b := 5) (by omega) (by decide)), if_neg (nI_pos hk), nI_1, b2_i]
    cases hh : hTs k i with
    | true =>
      rw [if_pos rfl]
      rw [e, hh] at ih
      exact ih
    | false =>
      rw [if_neg (by decide), x_106 hk (by omega), bI_s]
      rw [e, hh] at ih
      have o8 := oK_lt k i
      by_cases g : oK k i = 6
      · rw [if_pos (show nI (oK k i) = (6 : Int32) by rw [g]; rfl)]
        simp only [g] at ih
        exact ih
      · rw [if_neg (show ¬ nI (oK k i) = (6 : Int32) from fun e => g ((nI_eq (b := 6) (by omega) (by decide)).mp e))]
        simp only [g] at ih
        exact ih
theorem x_hasT {t : Nat} (ht : t < 524290) : mjF (d + 2) 122 [.int (tyI t)] hp = some (some (.int (b2 (hasT t))), hp) := by
  rw [e_122]
  unfold f_122 b_122_0
  by_cases g : t < 2
  · have hneg := (tyI_neg ht).mpr g
    have e : hasT t = false := by
      match t, g with
      | 0, _ => rfl
      | 1, _ => rfl
    rw [show mjN = 99999999 + 1 from rfl, L122_S, e]
    unfold b_122_4 b_122_39
    rw [if_neg (by decide), if_pos hneg, if_pos (by decide)]
    rfl
  · obtain ⟨k, rfl⟩ : ∃ k, t = k + 2 := ⟨t - 2, by omega⟩
    exact lq_122 (k := k) (by omega) 5 0 mjN (by omega) (by have := mjN_v; omega)
theorem x_view {a : Nat} (hq : isP q) (hc : c < 16) (ha : a < 16) : mjF (d + 1) 114 [.ref q, .int (nI c), .int (nI a)] (mjW0 s) = some (some (.int (s.1 (q + 12) (16 * c + a))), mjW0 s) := by
  rw [e_114]
  unfold f_114 b_114_0
  rw [yg_12 hq, show nI c * (16 : Int32) + nI a = nI (16 * c + a) by rw [show (16 : Int32) = nI 16 from rfl, nI_mul, nI_add, Nat.mul_comm], wya_12 hq (by omega)]
theorem x_above (hq : isP q) (hc : c < 16) {o : Option Nat} (h : s.1 (q + 5) c = oI o) (ho : ∀ k, o = some k → k < 2 ^ 31) : mjF (d + 2) 108 [.ref q, .int (nI c)] (mjW0 s) = some (some (.int (oI (o.map cK))), mjW0 s) := by
  rw [e_108]
  unfold f_108 b_108_0
  rw [yg_5 hq, wya_5 hq hc, h]
  cases o with
  | none => rw [if_neg (show ¬ (0 : Int32) ≤ oI none by decide)]; rfl
  | some k =>
    rw [oI_s, if_pos (nI_pos' (ho k rfl)), yg_5 hq, wya_5 hq hc, h, oI_s, x_105 (ho k rfl), bI_s]
    rfl
end MJA3b
end
section
/-! ===== the judge's view of the tokens ===== -/
def nk (k : Int32) : Prop := k = 2 ∨ k = 3
/-- the keys of the class's tokens: compared as T's names are -/
def KY (T : TT) (N : Nat) (s : mjSt3) : Prop := s.2.1 62 N = 0 ∧ (∀ k, k ≤ N → nk (T k).1 → ¬ s.2.1 62 k = 0) ∧ (∀ i j, i ≤ N → j ≤ N → nk (T i).1 → nk (T j).1 → (s.2.1 62 i = s.2.1 62 j ↔ (T i).2.2.1 = (T j).2.2.1)) ∧ ∀ k, k ≤ N → (T k).1 = 4 → (s.2.1 62 k).toInt32 = (T k).2.2.2
/-- no FAULT, the cursor at c; a FAULT, the cursor at the end -/
def fne (s : mjSt3) (c : Nat) : Prop := s.1 58 6 = nI c ∧ s.1 58 7 = 0
def bdd (N : Nat) (s : mjSt3) : Prop := s.1 58 6 = nI N ∧ ¬ s.1 58 7 = 0
def o58 : mjSt3 → mjSt3 → Prop := offG (fun h j => h = 58 ∧ (j = 6 ∨ j = 7 ∨ j = 8)) (fun _ _ => False)
section MJA4
variable {T : TT} {d N q c t n : Nat} {s s' : mjSt3}
theorem o58.go (s : mjSt3) (c : Nat) : o58 s (tkGo s c) := offG.w (Or.inl rfl |> fun h => ⟨rfl, h⟩)
theorem o58.r (o : o58 s s') {h : Nat} (hh : ¬ h = 58) : s'.1 h = s.1 h := funext fun j => o.1 h j (fun e => hh e.1)
theorem o58.l (o : o58 s s') : s'.2 = s.2 := by
  have a : s'.2.1 = s.2.1 := funext fun h => funext fun j => o.2.1 h j (fun e => e)
  exact Prod.ext a o.2.2
theorem TH.o58 (h : TH T N s) (o : o58 s s') : TH T N s' := by
  obtain ⟨a, b, c, e⟩ := h
  refine ⟨(o.1 58 5 (by omega)).trans a, b, c, fun k hk => ?_⟩
  rw [o.r (by decide), o.r (by decide)]
  exact e k hk
theorem KY.o58 (h : KY T N s) (o : o58 s s') : KY T N s' := by
  unfold KY
  rw [o.l]
  exact h
theorem KY.lr (h : KY T N s) (e : s'.2.1 62 = s.2.1 62) : KY T N s' := by
  unfold KY
  rw [e]
  exact h
theorem tk_f (h : TH T N s) (f : fne s c) (hc : c ≤ N) : Tk s c (N + 1) := ⟨f.1, h.1, by omega, by have := h.2.1; omega⟩
theorem tk_b (h : TH T N s) (f : bdd N s) : Tk s N (N + 1) := ⟨f.1, h.1, by omega, by have := h.2.1; omega⟩
theorem fne.go (h : fne s c) (t : Nat) : fne (tkGo s t) t := ⟨tkGo_c s t, (tkGo_f s t 7 (by decide)).trans h.2⟩
theorem tkGo_self (h : s.1 58 6 = nI c) : tkGo s c = s := by
  unfold tkGo
  rw [upd_id _ h, uI_self]
theorem bad_of {k p : Int32} (h : s.1 58 7 = 0) (hk : ¬ k = 0) : bdd N (tkBad s (N + 1) k p) ∧ o58 s (tkBad s (N + 1) k p) := by
  unfold tkBad
  rw [if_pos h, Nat.add_sub_cancel]
  refine ⟨⟨tkGo_c _ _, ?_⟩, ?_⟩
  · rw [tkGo_f _ _ _ (by decide), uI_same]
    exact hk
  · refine offG.tr ?_ (o58.go _ _)
    rw [show upd (upd (s.1 58) 7 k) 8 p = upd ((uI s 58 (upd (s.1 58) 7 k)).1 58) 8 p by rw [uI_same]]
    exact offG.tr (offG.w ⟨rfl, Or.inr (Or.inl rfl)⟩) (offG.w ⟨rfl, Or.inr (Or.inr rfl)⟩)
theorem bad_id {k p : Int32} (h : bdd N s) : tkBad s (N + 1) k p = s := by
  unfold tkBad
  rw [if_neg h.2, Nat.add_sub_cancel]
  exact tkGo_self h.1
/-- refuseAt, refuse, goTo, skip -/
theorem j_at (hT : TH T N s) (f : fne s c) (hc : c ≤ N) (ht : t ≤ N) {k : Int32} (hk : ¬ k = 0) : ∃ s', mjF (d + 1) 178 [.ref 58, .int k, .int (nI t)] (mjW0 s) = some (none, mjW0 s') ∧ bdd N s' ∧ o58 s s' :=
  ⟨_, x_refuseAt (tk_f hT f hc) (by omega) k, bad_of f.2 hk⟩
theorem j_atB (hT : TH T N s) (b : bdd N s) {k t : Int32} : mjF (d + 1) 178 [.ref 58, .int k, .int t] (mjW0 s) = some (none, mjW0 s) := by
  rw [e_178]
  unfold f_178 b_178_0
  rw [xg_58_7, if_neg b.2]
  unfold b_178_34
  rw [xg_58_5, hT.1, nI_pred, xp_58_6, show uI s 58 (upd (s.1 58) 6 (nI N)) = s from tkGo_self b.1]
theorem j_ref (hT : TH T N s) (f : fne s c) (hc : c ≤ N) {k : Int32} (hk : ¬ k = 0) : ∃ s', mjF (d + 1) 165 [.ref 58, .int k] (mjW0 s) = some (none, mjW0 s') ∧ bdd N s' ∧ o58 s s' := by
  refine ⟨_, x_refuse (tk_f hT f hc) k, bad_of f.2 ?_⟩
  by_cases h : s.1 60 c = 1
  · rw [if_pos h]; decide
  · rw [if_neg h]; exact hk
theorem j_refB (hT : TH T N s) (b : bdd N s) {k : Int32} : mjF (d + 1) 165 [.ref 58, .int k] (mjW0 s) = some (none, mjW0 s) := by
  rw [x_refuse (tk_b hT b), bad_id b]
theorem j_go (hT : TH T N s) (f : fne s c) (hc : c ≤ N) (ht : t ≤ N) : mjF (d + 1) 179 [.ref 58, .int (nI t)] (mjW0 s) = some (none, mjW0 (tkGo s t)) := x_goTo (tk_f hT f hc) (by omega) f.2
theorem j_goB (b : bdd N s) (t : Int32) : mjF (d + 1) 179 [.ref 58, .int t] (mjW0 s) = some (none, mjW0 s) := x_goStay t b.2
theorem j_skip (hT : TH T N s) (f : fne s c) (hc : c < N) : mjF (d + 1) 166 [.ref 58] (mjW0 s) = some (none, mjW0 (tkGo s (c + 1))) := by
  rw [x_skip (tk_f hT f (by omega)), if_pos (by omega)]
theorem j_skipB (hT : TH T N s) (b : bdd N s) : mjF (d + 1) 166 [.ref 58] (mjW0 s) = some (none, mjW0 s) := by
  rw [x_skip (tk_b hT b), if_neg (by omega)]
theorem j_is (hT : TH T N s) (f : s.1 58 6 = nI c) (hc : c ≤ N) (k : Int32) : mjF (d + 1) 164 [.ref 58, .int k] (mjW0 s) = some (some (.int (if (T c).1 = k then 1 else 0)), mjW0 s) := by
  rw [x_is (n := N + 1) ⟨f, hT.1, by omega, by have := hT.2.1; omega⟩, (hT.2.2.2 c hc).1]
theorem j_now (hT : TH T N s) (f : s.1 58 6 = nI c) (hc : c ≤ N) : mjF (d + 1) 167 [.ref 58] (mjW0 s) = some (some (.int (nI c)), mjW0 s) := x_now (n := N + 1) ⟨f, hT.1, by omega, by have := hT.2.1; omega⟩
theorem j_key (hT : TH T N s) (f : s.1 58 6 = nI c) (hc : c ≤ N) (ht : t ≤ N) : mjF (d + 1) 170 [.ref 58, .int (nI t)] (mjW0 s) = some (some (.long (s.2.1 62 t)), mjW0 s) := x_keyAt (c := c) (n := N + 1) ⟨f, hT.1, by omega, by have := hT.2.1; omega⟩ (by omega)
theorem j_kind (hT : TH T N s) (f : s.1 58 6 = nI c) (hc : c ≤ N) (ht : t ≤ N) : mjF (d + 1) 180 [.ref 58, .int (nI t)] (mjW0 s) = some (some (.int (T t).1), mjW0 s) := by
  rw [x_kindAt (c := c) (n := N + 1) ⟨f, hT.1, by omega, by have := hT.2.1; omega⟩ (by omega), (hT.2.2.2 t ht).1]
theorem j_place (hT : TH T N s) (f : s.1 58 6 = nI c) (hc : c ≤ N) (ht : t ≤ N) : mjF (d + 1) 168 [.ref 58, .int (nI t)] (mjW0 s) = some (some (.int (T t).2.1), mjW0 s) := by
  rw [x_placeAt (c := c) (n := N + 1) ⟨f, hT.1, by omega, by have := hT.2.1; omega⟩ (by omega), (hT.2.2.2 t ht).2]
theorem j_fine {c : Nat} (f : fne s c) : mjF (d + 1) 172 [.ref 58] (mjW0 s) = some (some (.int 1), mjW0 s) := by
  rw [x_fine, if_pos f.2]
theorem j_fineB (b : bdd N s) : mjF (d + 1) 172 [.ref 58] (mjW0 s) = some (some (.int 0), mjW0 s) := by
  rw [x_fine, if_neg b.2]
end MJA4
/-! ===== CLASSES and NAMES by their keys ===== -/
def hC (L : List CD) (c : Nat) : HD := match L[c]? with
  | some D => D.1
  | none => (0, 0, 0, 0, 0)
def kyT (T : TT) (t : Nat) : Int64 := (T t).2.2.1
def clsK (T : TT) (L : List CD) (k : Int64) : Option Nat := fnd (fun c => decide (kyT T (hC L c).1 = k)) L.length
def nmK (T : TT) (L : List CD) (c : Nat) (k : Int64) : Option Nat := fnd (fun i => decide (kyT T ((hC L c).1 + 2 + 2 * i) = k)) (hC L c).2.1
/-- an OWNER's token in a CLASS (none: in main), perhaps behind is -/
def owT (T : TT) (L : List CD) (c : Option Nat) (beh : Bool) (t : Nat) : Option Nat := if (T t).1 = 13 then some 5 else match c with
  | none => none
  | some c => if (T t).1 = 12 then (if beh = true then none else some 6) else nmK T L c (kyT T t)
/-- a KIND's token -/
def kdT (T : TT) (L : List CD) (c : Option Nat) (beh : Bool) (t : Nat) : Option Nat := match clsK T L (kyT T t) with
  | none => none
  | some e => if cntO T 6 (t + 2) = (hC L e).2.1 then (match fnd (fun i => decide (owT T L c beh (t + 2 + 2 * i) = none)) (hC L e).2.1 with
    | some _ => none
    | none => some (mkK e (hC L e).2.1 (fun i => (owT T L c beh (t + 2 + 2 * i)).getD 0))) else none
/-- what stands at the CLASSES' names -/
def HN (T : TT) (N : Nat) (L : List CD) : Prop := L.length ≤ 16 ∧ ∀ c, c < L.length → (T (hC L c).1).1 = 2 ∧ (hC L c).1 ≤ N ∧ 1 ≤ (hC L c).2.1 ∧ (hC L c).2.1 ≤ 5 ∧ ∀ i, i < (hC L c).2.1 → (T ((hC L c).1 + 2 + 2 * i)).1 = 3 ∧ (hC L c).1 + 2 + 2 * i ≤ N
/-- the judge's rows of keys -/
def CKs (L : List CD) (s : mjSt3) : Prop := ∀ c, c < L.length → s.2.1 72 c = s.2.1 62 (hC L c).1 ∧ ∀ i, i < (hC L c).2.1 → s.2.1 73 (5 * c + i) = s.2.1 62 ((hC L c).1 + 2 + 2 * i)
/-- a KIND stands at t -/
def KDk (T : TT) (N t : Nat) : Prop := (T t).1 = 2 ∧ 1 ≤ cntO T 6 (t + 2) ∧ cntO T 6 (t + 2) ≤ 5 ∧ t + 2 + 2 * cntO T 6 (t + 2) ≤ N ∧ (∀ i, i < cntO T 6 (t + 2) → isOw (T (t + 2 + 2 * i)).1) ∧ (∀ i, 1 ≤ i → i < cntO T 6 (t + 2) → (T (t + 1 + 2 * i)).1 = 44) ∧ (T (t + 1 + 2 * cntO T 6 (t + 2))).1 = 93
section MJA4b
variable {T : TT} {d N q c t n : Nat} {s s' : mjSt3} {L : List CD}
theorem L56_S (R : mjR) (n a : Nat) (b : Int64) (e : Int32) (hp : mjH) : L_56_2 R (n + 1) a b e hp = b_56_2 R (L_56_2 R n) a b e hp := rfl
theorem lq_56 (hq : isP q) (hj : s.2.2 71 2 = q) (hn : s.1 q 0 = nI n) (h16 : n ≤ 16) (R : mjR) (key : Int64) : ∀ (r i m : Nat), i + r = n → r < m → (∀ j, j < i → ¬ s.2.1 72 j = key) → L_56_2 R m 71 key (nI i) (mjW0 s) = some (some (.int (oI (fnd (fun c => decide (s.2.1 72 c = key)) n))), mjW0 s)
  | 0, i, m + 1, h, _, hb => by
    rw [L56_S]
    unfold b_56_2
    rw [xg_71_2, hj, yg_0 hq, hn, if_pos (nI_le (by omega) (by omega)), fnd_none.mpr (fun j hj => by simpa using hb j (by omega))]
    rfl
  | r + 1, i, m + 1, h, hr, hb => by
    rw [L56_S]
    unfold b_56_2
    rw [xg_71_2, hj, yg_0 hq, hn, if_neg (nI_ge (by omega) (by omega)), xg_71_5, wa_72 (by omega)]
    by_cases e : s.2.1 72 i = key
    · rw [if_pos ((lg_cmp_eq _ _).mpr e), show fnd (fun c => decide (s.2.1 72 c = key)) n = some i from fnd_some.mpr ⟨by omega, by simpa using e, fun j hj => by simpa using hb j hj⟩]
      rfl
    · rw [if_neg (fun x => e ((lg_cmp_eq _ _).mp x)), nI_1]
      refine lq_56 hq hj hn h16 R key r (i + 1) m (by omega) (by omega) (fun j hj => ?_)
      by_cases g : j = i
      · rw [g]; exact e
      · exact hb j (by omega)
theorem x_56 (hq : isP q) (hj : s.2.2 71 2 = q) (hn : s.1 q 0 = nI n) (h16 : n ≤ 16) (key : Int64) : mjF (d + 1) 56 [.ref 71, .long key] (mjW0 s) = some (some (.int (oI (fnd (fun c => decide (s.2.1 72 c = key)) n))), mjW0 s) := by
  rw [e_56]
  unfold f_56 b_56_0
  exact lq_56 (n := n) hq hj hn h16 _ key n 0 mjN (by omega) (by have := mjN_v; omega) (fun j hj => absurd hj (by omega))
theorem L58_S (R : mjR) (n a : Nat) (b : Int32) (e : Int64) (f : Int32) (hp : mjH) : L_58_3 R (n + 1) a b e f hp = b_58_3 R (L_58_3 R n) a b e f hp := rfl
theorem lq_58 (hq : isP q) (hj : s.2.2 71 2 = q) (hc : c < 16) (hn : s.1 (q + 1) c = nI n) (h5 : n ≤ 5) (R : mjR) (key : Int64) : ∀ (r i m : Nat), i + r = n → r < m → (∀ j, j < i → ¬ s.2.1 73 (5 * c + j) = key) → L_58_3 R m 71 (nI c) key (nI i) (mjW0 s) = some (some (.int (oI (fnd (fun i => decide (s.2.1 73 (5 * c + i) = key)) n))), mjW0 s)
  | 0, i, m + 1, h, _, hb => by
    rw [L58_S]
    unfold b_58_3
    rw [xg_71_2, hj, yg_1 hq, wya_1 hq hc, hn, if_pos (nI_le (by omega) (by omega)), fnd_none.mpr (fun j hj => by simpa using hb j (by omega))]
    rfl
  | r + 1, i, m + 1, h, hr, hb => by
    rw [L58_S]
    unfold b_58_3
    rw [xg_71_2, hj, yg_1 hq, wya_1 hq hc, hn, if_neg (nI_ge (by omega) (by omega)), xg_71_6, show nI c * (5 : Int32) + nI i = nI (5 * c + i) by rw [show (5 : Int32) = nI 5 from rfl, nI_mul, nI_add, Nat.mul_comm], wa_73 (by omega)]
    by_cases e : s.2.1 73 (5 * c + i) = key
    · rw [if_pos ((lg_cmp_eq _ _).mpr e), show fnd (fun i => decide (s.2.1 73 (5 * c + i) = key)) n = some i from fnd_some.mpr ⟨by omega, by simpa using e, fun j hj => by simpa using hb j hj⟩]
      rfl
    · rw [if_neg (fun x => e ((lg_cmp_eq _ _).mp x)), nI_1]
      refine lq_58 hq hj hc hn h5 R key r (i + 1) m (by omega) (by omega) (fun j hj => ?_)
      by_cases g : j = i
      · rw [g]; exact e
      · exact hb j (by omega)
theorem x_58 (hq : isP q) (hj : s.2.2 71 2 = q) (hc : c < 16) (hn : s.1 (q + 1) c = nI n) (h5 : n ≤ 5) (key : Int64) : mjF (d + 1) 58 [.ref 71, .int (nI c), .long key] (mjW0 s) = some (some (.int (oI (fnd (fun i => decide (s.2.1 73 (5 * c + i) = key)) n))), mjW0 s) := by
  rw [e_58]
  unfold f_58 b_58_0
  exact lq_58 (n := n) hq hj hc hn h5 _ key n 0 mjN (by omega) (by have := mjN_v; omega) (fun j hj => absurd hj (by omega))
/-- the keys' rows found by T's names -/
theorem fn_cls (hk : KY T N s) (hn : HN T N L) (hs : CKs L s) (ht : t ≤ N) (hT : (T t).1 = 2) : fnd (fun c => decide (s.2.1 72 c = s.2.1 62 t)) L.length = clsK T L (kyT T t) := by
  refine fnd_cg (fun c hc => ?_)
  have a := (hn.2 c hc)
  rw [(hs c hc).1]
  exact decide_eq_decide.mpr (hk.2.2.1 _ _ a.2.1 ht (Or.inl a.1) (Or.inl hT))
theorem fn_nm (hk : KY T N s) (hn : HN T N L) (hs : CKs L s) (hc : c < L.length) (ht : t ≤ N) (hT : (T t).1 = 3) : fnd (fun i => decide (s.2.1 73 (5 * c + i) = s.2.1 62 t)) (hC L c).2.1 = nmK T L c (kyT T t) := by
  refine fnd_cg (fun i hi => ?_)
  have a := (hn.2 c hc)
  have b := a.2.2.2.2 i hi
  rw [(hs c hc).2 i hi]
  exact decide_eq_decide.mpr (hk.2.2.1 _ _ b.2 ht (Or.inr b.1) (Or.inr hT))
theorem fn_0 (hk : KY T N s) (hn : HN T N L) (hs : CKs L s) : fnd (fun c => decide (s.2.1 72 c = s.2.1 62 N)) L.length = none := by
  refine fnd_none.mpr (fun c hc => ?_)
  have a := (hn.2 c hc)
  rw [(hs c hc).1, hk.1]
  simpa using hk.2.1 _ a.2.1 (Or.inl a.1)
end MJA4b
end
section
/-! ===== kindHere: the KIND at the cursor ===== -/
def nmL (L : List CD) (c : Nat) : Nat := (hC L c).2.1
def allB (g : Nat → Bool) : Nat → Bool
  | 0 => true
  | n + 1 => allB g n && g n
theorem allB_iff {g : Nat → Bool} : ∀ {n : Nat}, allB g n = true ↔ ∀ i, i < n → g i = true
  | 0 => ⟨fun _ i h => absurd h (by omega), fun _ => rfl⟩
  | n + 1 => by
    unfold allB
    rw [Bool.and_eq_true, allB_iff]
    constructor
    · intro ⟨a, b⟩ i hi
      by_cases e : i = n
      · rw [e]; exact b
      · exact a i (by omega)
    · intro h
      exact ⟨fun i hi => h i (by omega), h n (by omega)⟩
/-- an OWNER is known to be IN another one (none: in main) -/
def knB (kn : Nat → Nat → Nat → Bool) (c : Option Nat) (a b : Nat) : Bool := match c with
  | none => decide (a = 5) && decide (b = 5)
  | some c => kn c a b
/-- a KIND is NESTED; ip: the INS of a CLASS -/
def nst (nm iN : Nat → Nat) (ip : Nat → Nat → Nat × Nat) (kn : Nat → Nat → Nat → Bool) (c : Option Nat) (k : Nat) : Bool :=
  allB (fun i => decide (i = 0) || knB kn c (oK k 0) (oK k i)) (nm (cK k)) && allB (fun i => knB kn c (oK k (ip (cK k) i).1) (oK k (ip (cK k) i).2)) (iN (cK k))
/-- the class's rows of what is known -/
def KNW (q : Nat) (s : mjSt3) (kn : Nat → Nat → Nat → Bool) : Prop := ∀ c, c < 16 → ∀ a, a < 7 → ∃ w, w < 128 ∧ s.1 (q + 11) (7 * c + a) = nI w ∧ ∀ b, b < 7 → w.testBit b = kn c a b
/-- the class's rows of INS -/
def INP (q : Nat) (s : mjSt3) (iN : Nat → Nat) (ip : Nat → Nat → Nat × Nat) : Prop := ∀ c, c < 16 → s.1 (q + 3) c = nI (iN c) ∧ iN c ≤ 8 ∧ ∀ i, i < iN c → s.1 (q + 4) (8 * c + i) = nI (7 * (ip c i).1 + (ip c i).2) ∧ (ip c i).1 ≤ 4 ∧ (ip c i).2 ≤ 4
theorem sh_l : ∀ n, n < 32 → ((nI n &&& 31).toBitVec.smod 32).toNat = n := by decide
theorem dv7 : ∀ a, a < 5 → ∀ b, b < 5 → nI (7 * a + b) / 7 = nI a ∧ nI (7 * a + b) - nI (7 * a + b) / 7 * 7 = nI b := by decide
section MJA5
variable {T : TT} {d N q c t n e k : Nat} {s s' : mjSt3} {L : List CD} {h : Option Nat} {nm iN : Nat → Nat} {ip : Nat → Nat → Nat × Nat} {kn : Nat → Nat → Nat → Bool}
theorem x_known (hq : isP q) (hk : KNW q s kn) (hc : ∀ c, h = some c → c < 16) {a b : Nat} (ha : a < 7) (hb : b < 7) : mjF (d + 1) 107 [.ref q, .int (oI h), .int (nI a), .int (nI b)] (mjW0 s) = some (some (.int (b2 (knB kn h a b))), mjW0 s) := by
  rw [e_107]
  unfold f_107 b_107_0 b_107_19
  cases h with
  | none =>
    rw [if_pos (show oI none = -1 from rfl)]
    have ea : nI a = (5 : Int32) ↔ a = 5 := nI_eq (b := 5) (by omega) (by decide)
    have eb : nI b = (5 : Int32) ↔ b = 5 := nI_eq (b := 5) (by omega) (by decide)
    by_cases g : a = 5
    · rw [if_pos (ea.mpr g)]
      by_cases g2 : b = 5
      · rw [if_pos (eb.mpr g2)]
        simp [knB, g, g2, b2]
      · rw [if_neg (fun x => g2 (eb.mp x))]
        simp [knB, g2, b2]
    · rw [if_neg (fun x => g (ea.mp x))]
      simp [knB, g, b2]
  | some c =>
    have h16 := hc c rfl
    obtain ⟨w, w1, w2, w3⟩ := hk c h16 a ha
    rw [oI_s, if_neg (nI_m1 (by omega)), yg_11 hq, show nI c * (7 : Int32) + nI a = nI (7 * c + a) by rw [show (7 : Int32) = nI 7 from rfl, nI_mul, nI_add, Nat.mul_comm], wya_11 hq (by omega), w2, pk_shrN (by omega) _ b (sh_l b (by omega)), pk_andN (Nat.lt_of_le_of_lt (Nat.div_le_self _ _) (by omega)) 1 (by decide)]
    have tb : w.testBit b = decide (w / 2 ^ b % 2 = 1) := Nat.testBit_eq_decide_div_mod_eq
    rw [w3 b hb] at tb
    show (if nI (w / 2 ^ b % 2 ^ 1) = 0 then _ else _) = some (some (Value.int (b2 (kn c a b))), mjW0 s)
    rw [tb]
    have m2 : w / 2 ^ b % 2 < 2 := Nat.mod_lt _ (by omega)
    by_cases g : w / 2 ^ b % 2 = 1
    · rw [if_neg (show ¬ nI (w / 2 ^ b % 2 ^ 1) = 0 by rw [show w / 2 ^ b % 2 ^ 1 = 1 from g]; decide)]
      simp [g, b2]
    · rw [if_pos (show nI (w / 2 ^ b % 2 ^ 1) = 0 by rw [show w / 2 ^ b % 2 ^ 1 = 0 from (by show w / 2 ^ b % 2 = 0; omega)]; decide)]
      simp [g, b2]
theorem L104a_S (R : mjR) (n a : Nat) (b e f g i : Int32) (hp : mjH) : L_104_11 R (n + 1) a b e f g i hp = b_104_11 R (L_104_11 R n) a b e f g i hp := rfl
theorem L104b_S (R : mjR) (n a : Nat) (b e f g i : Int32) (hp : mjH) : L_104_62 R (n + 1) a b e f g i hp = b_104_62 R (L_104_62 R n) a b e f g i hp := rfl
/-- owners of a KIND are no more than 6 -/
def vO (k : Nat) : Prop := ∀ i, i < 5 → oK k i ≤ 6
theorem lq_104b (hq : isP q) (hk : KNW q s kn) (hi : INP q s iN ip) (hc : ∀ c, h = some c → c < 16) (h31 : k < 2 ^ 31) (h16 : cK k < 16) (v : vO k) (A : Bool) : ∀ (r i m : Nat), i + r = iN (cK k) → r < m → L_104_62 (mjF (d + 1)) m q (oI h) (nI k) (nI (cK k)) (b2 (A && allB (fun i => knB kn h (oK k (ip (cK k) i).1) (oK k (ip (cK k) i).2)) i)) (nI i) (mjW0 s) = some (some (.int (b2 (A && allB (fun i => knB kn h (oK k (ip (cK k) i).1) (oK k (ip (cK k) i).2)) (iN (cK k))))), mjW0 s)
  | 0, i, m + 1, e, _ => by
    have h8 := (hi _ h16).2.1
    rw [L104b_S]
    unfold b_104_62
    rw [yg_3 hq, wya_3 hq h16, (hi _ h16).1, if_pos (nI_le (by omega) (by omega)), if_pos (b2_nar _), show i = iN (cK k) by omega]
  | r + 1, i, m + 1, e, hr => by
    obtain ⟨i1, i2, i3⟩ := hi _ h16
    obtain ⟨j1, j2, j3⟩ := i3 i (by omega)
    have ih := lq_104b hq hk hi hc h31 h16 v A r (i + 1) m (by omega) (by omega)
    have d7 := dv7 _ (show (ip (cK k) i).1 < 5 by omega) _ (show (ip (cK k) i).2 < 5 by omega)
    rw [L104b_S]
    unfold b_104_62 b_104_126 b_104_127
    rw [yg_3 hq, wya_3 hq h16, i1, if_neg (nI_ge (by omega) (by omega)), yg_4 hq, show nI (cK k) * (8 : Int32) + nI i = nI (8 * cK k + i) by rw [show (8 : Int32) = nI 8 from rfl, nI_mul, nI_add, Nat.mul_comm], wya_4 hq (by omega), j1, d7.2, d7.1, x_106 h31 j2, bI_s, nI_1, b2_i]
    have e1 : ∀ B, allB B (i + 1) = (allB B i && B i) := fun _ => rfl
    rw [e1, ← Bool.and_assoc] at ih
    cases hA : (A && allB (fun i => knB kn h (oK k (ip (cK k) i).1) (oK k (ip (cK k) i).2)) i) with
    | false =>
      rw [if_neg (by decide)]
      rw [hA, Bool.false_and] at ih
      exact ih
    | true =>
      rw [if_pos rfl, x_106 h31 j3, bI_s, yV hq, x_known hq hk hc (by have := v _ (show (ip (cK k) i).1 < 5 by omega); omega) (by have := v _ (show (ip (cK k) i).2 < 5 by omega); omega), bI_s, b2_i]
      rw [hA, Bool.true_and] at ih
      cases hB : knB kn h (oK k (ip (cK k) i).1) (oK k (ip (cK k) i).2) with
      | false => rw [hB] at ih; rw [if_neg (by decide)]; exact ih
      | true => rw [hB] at ih; rw [if_pos rfl]; exact ih
theorem lq_104a (hq : isP q) (hn : pnm q s nm) (hk : KNW q s kn) (hi : INP q s iN ip) (hc : ∀ c, h = some c → c < 16) (h31 : k < 2 ^ 31) (h16 : cK k < 16) (v : vO k) : ∀ (r i m : Nat), i + r = nm (cK k) → r < m → 1 ≤ i → L_104_11 (mjF (d + 1)) m q (oI h) (nI k) (nI (cK k)) (b2 (allB (fun i => decide (i = 0) || knB kn h (oK k 0) (oK k i)) i)) (nI i) (mjW0 s) = some (some (.int (b2 (nst nm iN ip kn h k))), mjW0 s)
  | 0, i, m + 1, e, _, _ => by
    have h5 := (hn _ h16).2
    have b := lq_104b (d := d) hq hk hi hc h31 h16 v (allB (fun i => decide (i = 0) || knB kn h (oK k 0) (oK k i)) i) (iN (cK k)) 0 mjN (by omega) (by have := (hi _ h16).2.1; have := mjN_v; omega)
    rw [show allB (fun i => knB kn h (oK k (ip (cK k) i).1) (oK k (ip (cK k) i).2)) 0 = true from rfl, Bool.and_true, show nI 0 = 0 from rfl] at b
    rw [L104a_S]
    unfold b_104_11
    rw [yg_1 hq, wya_1 hq h16, (hn _ h16).1, if_pos (nI_le (by omega) (by omega)), b, show i = nm (cK k) by omega]
    rfl
  | r + 1, i, m + 1, e, hr, h1 => by
    have h5 := (hn _ h16).2
    have ih := lq_104a hq hn hk hi hc h31 h16 v r (i + 1) m (by omega) (by omega) (by omega)
    rw [L104a_S]
    unfold b_104_11 b_104_50 b_104_51
    rw [yg_1 hq, wya_1 hq h16, (hn _ h16).1, if_neg (nI_ge (by omega) (by omega)), nI_1, b2_i]
    have e1 : ∀ B, allB B (i + 1) = (allB B i && B i) := fun _ => rfl
    rw [e1, show decide (i = 0) = false from decide_eq_false (by omega), Bool.false_or] at ih
    cases hA : allB (fun i => decide (i = 0) || knB kn h (oK k 0) (oK k i)) i with
    | false =>
      rw [if_neg (by decide)]
      rw [hA, Bool.false_and] at ih
      exact ih
    | true =>
      rw [if_pos rfl, show (0 : Int32) = nI 0 from rfl, x_106 h31 (by omega), bI_s, x_106 h31 (by omega), bI_s, yV hq, x_known hq hk hc (by have := v 0 (by omega); omega) (by have := v i (by omega); omega), bI_s, show nI 0 = (0 : Int32) from rfl, b2_i]
      rw [hA, Bool.true_and] at ih
      cases hB : knB kn h (oK k 0) (oK k i) with
      | false => rw [hB] at ih; rw [if_neg (by decide)]; exact ih
      | true => rw [hB] at ih; rw [if_pos rfl]; exact ih
theorem x_nested (hq : isP q) (hn : pnm q s nm) (hk : KNW q s kn) (hi : INP q s iN ip) (hc : ∀ c, h = some c → c < 16) (h31 : k < 2 ^ 31) (h16 : cK k < 16) (h1 : 1 ≤ nm (cK k)) (v : vO k) : mjF (d + 2) 104 [.ref q, .int (oI h), .int (nI k)] (mjW0 s) = some (some (.int (b2 (nst nm iN ip kn h k))), mjW0 s) := by
  rw [e_104]
  unfold f_104 b_104_0
  rw [x_105 h31, bI_s]
  have a := lq_104a (d := d) hq hn hk hi hc h31 h16 v (nm (cK k) - 1) 1 mjN (by omega) (by have := (hn _ h16).2; have := mjN_v; omega) (by omega)
  exact a
theorem L61_S (R : mjR) (n a : Nat) (b e : Int32) (hp : mjH) : L_61_2 R (n + 1) a b e hp = b_61_2 R (L_61_2 R n) a b e hp := rfl
theorem lq_61 (hT : TH T N s) (f : s.1 58 6 = nI c) (hc : c ≤ N) (hk : KDk T N t) : ∀ (r i m : Nat), i + r = cntO T 6 (t + 2) → r < m → 1 ≤ i → L_61_2 (mjF (d + 1)) m 71 (nI t) (nI i) (mjW0 s) = some (some (.int (nI (cntO T 6 (t + 2)))), mjW0 s)
  | 0, i, m + 1, e, _, h1 => by
    obtain ⟨k1, k2, k3, k4, k5, k6, k7⟩ := hk
    have hN := hT.2.1
    rw [L61_S]
    unfold b_61_2 b_61_32
    rw [show i = cntO T 6 (t + 2) by omega]
    by_cases g : cntO T 6 (t + 2) = 5
    · rw [if_pos (show (5 : Int32) ≤ nI (cntO T 6 (t + 2)) by rw [g]; decide)]
    · rw [if_neg (show ¬ (5 : Int32) ≤ nI (cntO T 6 (t + 2)) from nI_ge (b := 5) (by omega) (by decide)), xg_71_0, xV_58, show nI t + (1 : Int32) + (2 : Int32) * nI (cntO T 6 (t + 2)) = nI (t + 1 + 2 * cntO T 6 (t + 2)) by rw [show (2 : Int32) = nI 2 from rfl, nI_mul, nI_1, nI_add], j_kind hT f hc (by omega), bI_s, if_neg (by rw [k7]; decide)]
  | r + 1, i, m + 1, e, hr, h1 => by
    obtain ⟨k1, k2, k3, k4, k5, k6, k7⟩ := hk
    have hN := hT.2.1
    rw [L61_S]
    unfold b_61_2
    rw [if_neg (show ¬ (5 : Int32) ≤ nI i from nI_ge (b := 5) (by omega) (by decide)), xg_71_0, xV_58, show nI t + (1 : Int32) + (2 : Int32) * nI i = nI (t + 1 + 2 * i) by rw [show (2 : Int32) = nI 2 from rfl, nI_mul, nI_1, nI_add], j_kind hT f hc (by omega), bI_s, if_pos (k6 i h1 (by omega)), nI_1]
    exact lq_61 hT f hc ⟨k1, k2, k3, k4, k5, k6, k7⟩ r (i + 1) m (by omega) (by omega) (by omega)
theorem x_61 (hT : TH T N s) (f : s.1 58 6 = nI c) (hc : c ≤ N) (hk : KDk T N t) : mjF (d + 2) 61 [.ref 71, .int (nI t)] (mjW0 s) = some (some (.int (nI (cntO T 6 (t + 2)))), mjW0 s) := by
  rw [e_61]
  unfold f_61 b_61_0
  exact lq_61 hT f hc hk (cntO T 6 (t + 2) - 1) 1 mjN (by have := hk.2.1; omega) (by have := hk.2.2.1; have := mjN_v; omega) (by omega)
theorem ow_le (hn : HN T N L) (hh : ∀ c, h = some c → c < L.length) {beh : Bool} {o : Nat} (e : owT T L h beh t = some o) : o ≤ 6 := by
  unfold owT at e
  by_cases g : (T t).1 = 13
  · rw [if_pos g] at e; cases e; omega
  · rw [if_neg g] at e
    cases h with
    | none => cases e
    | some c =>
      dsimp only at e
      by_cases g2 : (T t).1 = 12
      · rw [if_pos g2] at e
        cases beh with
        | true => cases e
        | false => cases e; omega
      · rw [if_neg g2] at e
        have := fnd_lt e
        have := (hn.2 c (hh c rfl)).2.2.2.1
        omega
theorem x_62 (hT : TH T N s) (hk : KY T N s) (hn : HN T N L) (hs : CKs L s) (hq : isP q) (hj : s.2.2 71 2 = q) (hm : pnm q s (nmL L)) (hh : ∀ c, h = some c → c < L.length) (f : s.1 58 6 = nI c) (hc : c ≤ N) (ht : t ≤ N) (ho : isOw (T t).1) (beh : Bool) : mjF (d + 2) 62 [.ref 71, .int (oI h), .int (nI t), .int (b2 beh)] (mjW0 s) = some (some (.int (oI (owT T L h beh t))), mjW0 s) := by
  rw [e_62]
  unfold f_62 b_62_0 b_62_47 owT
  rw [xg_71_0, xV_58, j_kind hT f hc ht, bI_s]
  have key : h = none ∨ ∃ c, h = some c := by
    cases h with
    | none => exact Or.inl rfl
    | some c => exact Or.inr ⟨c, rfl⟩
  rcases ho with o | o | o
  · rw [if_pos o, if_neg (show ¬ (T t).1 = 13 by rw [o]; decide)]
    rcases key with e | ⟨c1, e⟩
    · subst e
      rw [if_pos (show oI none = -1 from rfl)]
      rfl
    · subst e
      have := hh c1 rfl
      rw [if_neg (show ¬ oI (some c1) = -1 from nI_m1 (by have := hn.1; omega)), b2_i]
      dsimp only
      rw [if_pos o]
      cases beh <;> rfl
  · rw [if_neg (show ¬ (T t).1 = 12 by rw [o]; decide), if_pos o, if_pos o]
    rfl
  · rw [if_neg (show ¬ (T t).1 = 12 by rw [o]; decide), if_neg (show ¬ (T t).1 = 13 by rw [o]; decide), if_neg (show ¬ (T t).1 = 13 by rw [o]; decide)]
    rcases key with e | ⟨c1, e⟩
    · subst e
      rw [if_pos (show oI none = -1 from rfl)]
      rfl
    · subst e
      have h1 := hh c1 rfl
      have h16 := hn.1
      rw [if_neg (show ¬ oI (some c1) = -1 from nI_m1 (by omega)), xg_71_0, xV_58, j_key hT f hc ht, bL_s, xV_71, oI_s, x_58 (n := nmL L c1) hq hj (by omega) (hm c1 (by omega)).1 (hm c1 (by omega)).2, bI_s]
      dsimp only
      rw [if_neg (show ¬ (T t).1 = 12 by rw [o]; decide), show fnd _ (nmL L c1) = _ from fn_nm hk hn hs h1 ht o]
end MJA5
end
section
/-! ===== kindHere, typeHere ===== -/
/-- what the judge stands on -/
def JX (T : TT) (N q : Nat) (L : List CD) (s : mjSt3) : Prop := TH T N s ∧ KY T N s ∧ HN T N L ∧ CKs L s ∧ isP q ∧ (s.2.2 71 2 = q ∧ s.2.2 71 3 = q + 14) ∧ pnm q s (nmL L) ∧ s.1 q 0 = nI L.length
/-- a KIND that is judged -/
def vK (L : List CD) (k : Nat) : Prop := ∃ (e : Nat) (f : Nat → Nat), e < L.length ∧ k = mkK e (nmL L e) f ∧ ∀ i, i < nmL L e → f i ≤ 6
section MJA6
variable {T : TT} {d N q c t n e k : Nat} {s s' : mjSt3} {L : List CD} {h : Option Nat} {iN : Nat → Nat} {ip : Nat → Nat → Nat × Nat} {kn : Nat → Nat → Nat → Bool}
theorem JX.o58 (X : JX T N q L s) (o : o58 s s') : JX T N q L s' := by
  obtain ⟨a, b, c, e, f, g, i, j⟩ := X
  have hq : q = 2 ∨ q = 30 := f
  refine ⟨a.o58 o, b.o58 o, c, ?_, f, ?_, ?_, ?_⟩
  · unfold CKs; rw [o.l]; exact e
  · rw [o.l]; exact g
  · unfold pnm; rw [o.r (by omega)]; exact i
  · rw [o.r (by omega)]; exact j
theorem KNW.o58 (k : KNW q s kn) (hq : isP q) (o : o58 s s') : KNW q s' kn := by
  have hq : q = 2 ∨ q = 30 := hq
  unfold KNW; rw [o.r (by omega)]; exact k
theorem INP.o58 (k : INP q s iN ip) (hq : isP q) (o : o58 s s') : INP q s' iN ip := by
  have hq : q = 2 ∨ q = 30 := hq
  unfold INP; rw [o.r (by omega), o.r (by omega)]; exact k
theorem vK.n5 (hn : HN T N L) (he : e < L.length) : 1 ≤ nmL L e ∧ nmL L e ≤ 5 := ⟨(hn.2 e he).2.2.1, (hn.2 e he).2.2.2.1⟩
theorem vK.cl (hn : HN T N L) (v : vK L k) : cK k < L.length := by
  obtain ⟨e, f, h1, h2, h3⟩ := v
  rw [h2, mkK_c (vK.n5 hn h1).2 (fun i hi => by have := h3 i hi; omega)]
  exact h1
theorem vK.lt (hn : HN T N L) (v : vK L k) : k < 524288 := by
  obtain ⟨e, f, h1, h2, h3⟩ := v
  rw [h2]
  exact mkK_lt (vK.n5 hn h1).2 (fun i hi => by have := h3 i hi; omega) (by have := hn.1; omega)
theorem vK.ow (hn : HN T N L) (v : vK L k) : vO k := by
  obtain ⟨e, f, h1, h2, h3⟩ := v
  intro i hi
  have h8 : ∀ i, i < nmL L e → f i < 8 := fun i hi => by have := h3 i hi; omega
  rw [h2]
  by_cases g : i < nmL L e
  · rw [mkK_o (vK.n5 hn h1).2 h8 g]; exact h3 i g
  · rw [mkK_z (vK.n5 hn h1).2 h8 (by omega) hi]; omega
theorem kd_v (hn : HN T N L) (hh : ∀ c, h = some c → c < L.length) {beh : Bool} (hk : kdT T L h beh t = some k) : ∃ e, clsK T L (kyT T t) = some e ∧ e < L.length ∧ cntO T 6 (t + 2) = nmL L e ∧ k = mkK e (nmL L e) (fun i => (owT T L h beh (t + 2 + 2 * i)).getD 0) ∧ (∀ i, i < nmL L e → ¬ owT T L h beh (t + 2 + 2 * i) = none) ∧ vK L k := by
  unfold kdT at hk
  cases hc : clsK T L (kyT T t) with
  | none => rw [hc] at hk; cases hk
  | some e =>
    rw [hc] at hk
    dsimp only at hk
    by_cases g : cntO T 6 (t + 2) = (hC L e).2.1
    · rw [if_pos g] at hk
      cases hf : fnd (fun i => decide (owT T L h beh (t + 2 + 2 * i) = none)) (hC L e).2.1 with
      | some i => rw [hf] at hk; cases hk
      | none =>
        rw [hf] at hk
        have hl := fnd_lt hc
        have hno : ∀ i, i < nmL L e → ¬ owT T L h beh (t + 2 + 2 * i) = none := fun i hi => by simpa using fnd_none.mp hf i hi
        have ek : k = mkK e (nmL L e) (fun i => (owT T L h beh (t + 2 + 2 * i)).getD 0) := by simpa [nmL] using hk.symm
        refine ⟨e, rfl, hl, g, ek, hno, e, _, hl, ek, fun i hi => ?_⟩
        cases ho : owT T L h beh (t + 2 + 2 * i) with
        | none => exact absurd ho (hno i hi)
        | some o => exact ow_le hn hh ho
    · rw [if_neg g] at hk; cases hk
theorem L60_S (R : mjR) (n a : Nat) (b e f g i j : Int32) (hp : mjH) : L_60_83 R (n + 1) a b e f g i j hp = b_60_83 R (L_60_83 R n) a b e f g i j hp := rfl
theorem tI (t i : Nat) : nI t + (2 : Int32) + (2 : Int32) * nI i = nI (t + 2 + 2 * i) := by
  rw [show (2 : Int32) = nI 2 from rfl, nI_mul, nI_add, nI_add]
theorem lq_60 (X : JX T N q L s) (hh : ∀ c, h = some c → c < L.length) (f : s.1 58 6 = nI c) (hc : c ≤ N) (hk : KDk T N t) (beh : Bool) (he : e < L.length) (hnm : cntO T 6 (t + 2) = nmL L e) (m : Nat) : ∀ (r i : Nat), i + r = nmL L e → (∀ j, i ≤ j → j < nmL L e → ¬ owT T L h beh (t + 2 + 2 * j) = none) → L_60_83 (mjF (d + 2)) (m + r) 71 (oI h) (b2 beh) (nI t) (nI (nmL L e)) (nI (mkK e i (fun i => (owT T L h beh (t + 2 + 2 * i)).getD 0))) (nI i) (mjW0 s) = L_60_83 (mjF (d + 2)) m 71 (oI h) (b2 beh) (nI t) (nI (nmL L e)) (nI (mkK e (nmL L e) (fun i => (owT T L h beh (t + 2 + 2 * i)).getD 0))) (nI (nmL L e)) (mjW0 s)
  | 0, i, hi, _ => by rw [show i = nmL L e by omega]; rfl
  | r + 1, i, hi, ho => by
    obtain ⟨x1, x2, x3, x4, x5, x6, x7, x8⟩ := X
    have n5 := vK.n5 x3 he
    have h16 := x3.1
    have hN := x1.2.1
    have k4 := hk.2.2.2.1
    have ih := lq_60 ⟨x1, x2, x3, x4, x5, x6, x7, x8⟩ hh f hc hk beh he hnm m r (i + 1) (by omega) (fun j a b => ho j (by omega) b)
    rw [← ih, show m + (r + 1) = (m + r) + 1 by omega, L60_S]
    unfold b_60_83
    rw [if_neg (nI_ge (by omega) (by omega)), xV_71, tI, x_62 x1 x2 x3 x4 x5 x6.1 x7 hh f hc (by omega) (hk.2.2.2.2.1 i (by omega)) beh, bI_s]
    cases hw : owT T L h beh (t + 2 + 2 * i) with
    | none => exact absurd hw (ho i (by omega) (by omega))
    | some o =>
      have o6 := ow_le x3 hh hw
      rw [oI_s, if_neg (nI_m1 (by omega))]
      have e3 := x_103 (d := d + 1) (c := e) (i := i) (f := fun i => (owT T L h beh (t + 2 + 2 * i)).getD 0) (hp := mjW0 s) (by omega) (fun j hj => by
        show (owT T L h beh (t + 2 + 2 * j)).getD 0 < 8
        cases hw2 : owT T L h beh (t + 2 + 2 * j) with
        | none => show 0 < 8; omega
        | some o2 => have := ow_le x3 hh hw2; show o2 < 8; omega) (by omega)
      simp only [hw, Option.getD_some] at e3
      rw [e3, bI_s, nI_1]
/-- the KIND at the cursor, in a good state -/
theorem x_60 (X : JX T N q L s) (hh : ∀ c, h = some c → c < L.length) (f : fne s t) (hk : KDk T N t) (beh tr : Bool) (htr : s.1 71 4 = b2 tr) (hx : beh = true ∨ tr = true ∨ (KNW q s kn ∧ INP q s iN ip)) : match kdT T L h beh t with
    | some k => if (beh || tr || nst (nmL L) iN ip kn h k) = true then mjF (d + 3) 60 [.ref 71, .int (oI h), .int (b2 beh)] (mjW0 s) = some (some (.int (nI k)), mjW0 (tkGo s (t + 2 + 2 * cntO T 6 (t + 2)))) else ∃ s', mjF (d + 3) 60 [.ref 71, .int (oI h), .int (b2 beh)] (mjW0 s) = some (some (.int (nI k)), mjW0 s') ∧ bdd N s' ∧ o58 s s'
    | none => ∃ s', mjF (d + 3) 60 [.ref 71, .int (oI h), .int (b2 beh)] (mjW0 s) = some (some (.int (nI 0)), mjW0 s') ∧ bdd N s' ∧ o58 s s' := by
  have X0 := X
  obtain ⟨x1, x2, x3, x4, x5, x6, x7, x8⟩ := X
  have h16 := x3.1
  have hN := x1.2.1
  have k4 := hk.2.2.2.1
  have htN : t ≤ N := by omega
  have pre : mjF (d + 3) 60 [.ref 71, .int (oI h), .int (b2 beh)] (mjW0 s) = _ := e_60 (d := d + 2)
  unfold f_60 b_60_0 at pre
  rw [xg_71_0, xV_58, j_now x1 f.1 htN, bI_s, xg_71_0, xV_58, j_key x1 f.1 htN htN, bL_s, xV_71, x_56 x5 x6.1 x8 h16, bI_s, fn_cls x2 x3 x4 htN hk.1] at pre
  cases hc : clsK T L (kyT T t) with
  | none =>
    rw [hc, oI_n, if_pos rfl, xg_71_0, xV_58] at pre
    have en : kdT T L h beh t = none := by unfold kdT; rw [hc]
    rw [en]
    obtain ⟨s', a1, a2, a3⟩ := j_at (d := d + 1) (k := 5) x1 f htN htN (by decide)
    exact ⟨s', by rw [pre, a1, bN_s]; rfl, a2, a3⟩
  | some e =>
    have he := fnd_lt hc
    rw [hc, oI_s, if_neg (nI_m1 (by omega)), xV_71, x_61 x1 f.1 htN hk, bI_s, xg_71_2, x6.1, yg_1 x5, wya_1 x5 (by omega), (x7 e (by omega)).1] at pre
    have n5 := vK.n5 x3 he
    by_cases g : cntO T 6 (t + 2) = nmL L e
    · rw [if_pos (show nI (cntO T 6 (t + 2)) = nI (nmL L e) by rw [g]), x_102 (f := fun i => (owT T L h beh (t + 2 + 2 * i)).getD 0) (by omega), bI_s, g] at pre
      cases hf : fnd (fun i => decide (owT T L h beh (t + 2 + 2 * i) = none)) (nmL L e) with
      | some i =>
        obtain ⟨f1, f2, f3⟩ := fnd_some.mp hf
        have en : kdT T L h beh t = none := by
          unfold kdT
          rw [hc]
          dsimp only
          rw [if_pos (show cntO T 6 (t + 2) = (hC L e).2.1 from g), show fnd _ (hC L e).2.1 = some i from hf]
        rw [en]
        -- the loop up to i, then the refusal
        have st : ∀ (r j m : Nat), j + r = i → L_60_83 (mjF (d + 2)) (m + r) 71 (oI h) (b2 beh) (nI t) (nI (nmL L e)) (nI (mkK e j (fun i => (owT T L h beh (t + 2 + 2 * i)).getD 0))) (nI j) (mjW0 s) = L_60_83 (mjF (d + 2)) m 71 (oI h) (b2 beh) (nI t) (nI (nmL L e)) (nI (mkK e i (fun i => (owT T L h beh (t + 2 + 2 * i)).getD 0))) (nI i) (mjW0 s) := by
          intro r
          induction r with
          | zero => intro j m hj; rw [show j = i by omega]; rfl
          | succ r ih =>
            intro j m hj
            rw [show m + (r + 1) = (m + r) + 1 by omega, L60_S]
            unfold b_60_83
            rw [if_neg (nI_ge (by omega) (by omega)), xV_71, tI, x_62 x1 x2 x3 x4 x5 x6.1 x7 hh f.1 htN (by omega) (hk.2.2.2.2.1 j (by omega)) beh, bI_s]
            cases hw : owT T L h beh (t + 2 + 2 * j) with
            | none => exact absurd (f3 j (by omega)) (by simp [hw])
            | some o =>
              have o6 := ow_le x3 hh hw
              rw [oI_s, if_neg (nI_m1 (by omega))]
              have e3 := x_103 (d := d + 1) (c := e) (i := j) (f := fun i => (owT T L h beh (t + 2 + 2 * i)).getD 0) (hp := mjW0 s) (by omega) (fun j hj => by
                show (owT T L h beh (t + 2 + 2 * j)).getD 0 < 8
                cases hw2 : owT T L h beh (t + 2 + 2 * j) with
                | none => show 0 < 8; omega
                | some o2 => have := ow_le x3 hh hw2; show o2 < 8; omega) (by omega)
              simp only [hw, Option.getD_some] at e3
              rw [e3, bI_s, nI_1]
              exact ih (j + 1) m (by omega)
        obtain ⟨m, hm⟩ : ∃ m, mjN = (m + 1) + i := ⟨mjN - i - 1, by have := mjN_v; omega⟩
        rw [hm, show (0 : Int32) = nI 0 from rfl, st i 0 (m + 1) (by omega), L60_S] at pre
        unfold b_60_83 at pre
        rw [if_neg (nI_ge (by omega) (by omega)), xV_71, tI, x_62 x1 x2 x3 x4 x5 x6.1 x7 hh f.1 htN (by omega) (hk.2.2.2.2.1 i (by omega)) beh, bI_s, show owT T L h beh (t + 2 + 2 * i) = none by simpa using f2, oI_n, if_pos rfl, xg_71_0, xV_58] at pre
        obtain ⟨s', a1, a2, a3⟩ := j_at (d := d + 1) (k := 5) (t := t + 2 + 2 * i) x1 f htN (by omega) (by decide)
        exact ⟨s', by rw [pre, a1, bN_s]; rfl, a2, a3⟩
      | none =>
        have en : kdT T L h beh t = some (mkK e (nmL L e) (fun i => (owT T L h beh (t + 2 + 2 * i)).getD 0)) := by
          unfold kdT
          rw [hc]
          dsimp only
          rw [if_pos (show cntO T 6 (t + 2) = (hC L e).2.1 from g), show fnd _ (hC L e).2.1 = none from hf]
          rfl
        have v := (kd_v x3 hh en)
        obtain ⟨_, _, _, _, _, _, v⟩ := v
        obtain ⟨k, hkk⟩ : ∃ k, k = mkK e (nmL L e) (fun i => (owT T L h beh (t + 2 + 2 * i)).getD 0) := ⟨_, rfl⟩
        rw [← hkk] at en v
        rw [en]
        have hno : ∀ i, 0 ≤ i → i < nmL L e → ¬ owT T L h beh (t + 2 + 2 * i) = none := fun i _ hi => by simpa using fnd_none.mp hf i hi
        obtain ⟨m, hm⟩ : ∃ m, mjN = (m + 1) + nmL L e := ⟨mjN - nmL L e - 1, by have := mjN_v; omega⟩
        have lp := lq_60 (d := d) X0 hh f.1 htN hk beh he g (m + 1) (nmL L e) 0 (by omega) hno
        rw [hm, show (0 : Int32) = nI 0 from rfl, lp, L60_S, ← hkk] at pre
        unfold b_60_83 b_60_196 at pre
        have go := j_go (d := d + 1) (t := t + 2 + 2 * nmL L e) x1 f htN (by omega)
        rw [if_pos (nI_le (by omega) (by omega)), xg_71_0, xV_58, tI, go, bN_s, b2_i] at pre
        obtain ⟨z, hz⟩ : ∃ z, z = tkGo s (t + 2 + 2 * nmL L e) := ⟨_, rfl⟩
        have oz : o58 s z := by rw [hz]; exact o58.go _ _
        have fz : fne z (t + 2 + 2 * nmL L e) := by rw [hz]; exact f.go _
        have Xz := X0.o58 oz
        rw [← hz] at pre
        rw [g, ← hz]
        dsimp only
        cases beh with
        | true =>
          rw [if_pos rfl] at pre
          rw [Bool.true_or, Bool.true_or, if_pos rfl]
          exact pre
        | false =>
          rw [if_neg (by decide), xg_71_4, oz.r (by decide), htr, b2_i] at pre
          cases tr with
          | true =>
            rw [if_pos rfl] at pre
            rw [Bool.or_true, Bool.true_or, if_pos rfl]
            exact pre
          | false =>
            rw [if_neg (by decide), xg_71_2, oz.l, x6.1, yV x5] at pre
            rcases hx with hx | hx | hx
            · cases hx
            · cases hx
            have nn := x_nested (d := d) (h := h) x5 Xz.2.2.2.2.2.2.1 (hx.1.o58 x5 oz) (hx.2.o58 x5 oz) (fun c hc => by have := hh c hc; omega) (by have := v.lt x3; omega) (by have := v.cl x3; omega) (by have := (vK.n5 x3 (v.cl x3)).1; exact this) (v.ow x3)
            rw [nn, bI_s, b2_i] at pre
            rw [Bool.or_false, Bool.false_or]
            cases hb : nst (nmL L) iN ip kn h k with
            | true =>
              rw [hb, if_pos rfl] at pre
              rw [if_pos rfl]
              exact pre
            | false =>
              rw [hb, if_neg (by decide), xg_71_0, xV_58] at pre
              rw [if_neg (by decide)]
              obtain ⟨s', a1, a2, a3⟩ := j_at (d := d + 1) (k := 8) (t := t) Xz.1 fz (by omega) htN (by decide)
              exact ⟨s', by rw [pre, a1, bN_s], a2, oz.tr a3⟩
    · have en : kdT T L h beh t = none := by
        unfold kdT
        rw [hc]
        dsimp only
        rw [if_neg (show ¬ cntO T 6 (t + 2) = (hC L e).2.1 from g)]
      rw [en]
      rw [if_neg (show ¬ nI (cntO T 6 (t + 2)) = nI (nmL L e) from fun x => g ((nI_eq (by have := hk.2.2.1; omega) (by omega)).mp x)), xg_71_0, xV_58] at pre
      obtain ⟨s', a1, a2, a3⟩ := j_at (d := d + 1) (k := 6) x1 f htN htN (by decide)
      exact ⟨s', by rw [pre, a1, bN_s]; rfl, a2, a3⟩
/-- in a bad state -/
theorem x_60B (X : JX T N q L s) (b : bdd N s) (hh beh : Int32) : mjF (d + 3) 60 [.ref 71, .int hh, .int beh] (mjW0 s) = some (some (.int (nI 0)), mjW0 s) := by
  obtain ⟨x1, x2, x3, x4, x5, x6, x7, x8⟩ := X
  rw [e_60]
  unfold f_60 b_60_0
  rw [xg_71_0, xV_58, j_now x1 b.1 (Nat.le_refl N), bI_s, xg_71_0, xV_58, j_key x1 b.1 (Nat.le_refl N) (Nat.le_refl N), bL_s, xV_71, x_56 x5 x6.1 x8 x3.1, bI_s, fn_0 x2 x3 x4, oI_n, if_pos rfl, xg_71_0, xV_58, j_atB x1 b, bN_s]
  rfl
end MJA6
end
section
/-! ===== (a): CLASSNAMES and NAMES told twice ===== -/
/-- a FAULT or none; with one the cursor is at the end -/
def GB (N : Nat) (s : mjSt3) : Prop := (∃ c, c ≤ N ∧ s.1 58 6 = nI c) ∧ (¬ s.1 58 7 = 0 → s.1 58 6 = nI N)
/-- what the reader left for the judge -/
def RDR (L : List CD) (s : mjSt3) : Prop := ∀ c, c < L.length → s.1 65 c = nI (hC L c).1 ∧ s.1 66 c = (if (hC L c).2.2.1 = 0 then -1 else nI ((hC L c).2.2.1 - 1)) ∧ ((hC L c).2.2.2.2 = 0 ∨ s.1 67 c = nI (hC L c).2.2.2.1)
/-- what the judge stands on, ahead of (a) -/
def JB (T : TT) (N q : Nat) (L : List CD) (s : mjSt3) : Prop := TH T N s ∧ KY T N s ∧ HN T N L ∧ isP q ∧ (s.2.2 71 2 = q ∧ s.2.2 71 3 = q + 14) ∧ pnm q s (nmL L) ∧ s.1 q 0 = nI L.length ∧ RDR L s
/-- all that (a) changes -/
def oJa : mjSt3 → mjSt3 → Prop := offG (fun h j => h = 58 ∧ (j = 6 ∨ j = 7 ∨ j = 8)) (fun h _ => h = 72 ∨ h = 73)
section MJA7
variable {T : TT} {d N q c t n e k : Nat} {s s' : mjSt3} {L : List CD}
theorem GB.f (g : GB N s) (h : s.1 58 7 = 0) : ∃ c, c ≤ N ∧ fne s c := by
  obtain ⟨⟨c, a, b⟩, _⟩ := g
  exact ⟨c, a, b, h⟩
theorem GB.b (g : GB N s) (h : ¬ s.1 58 7 = 0) : bdd N s := ⟨g.2 h, h⟩
theorem GB.of (f : fne s c) (hc : c ≤ N) : GB N s := ⟨⟨c, hc, f.1⟩, fun h => absurd f.2 h⟩
theorem GB.ob (b : bdd N s) : GB N s := ⟨⟨N, Nat.le_refl N, b.1⟩, fun _ => b.1⟩
theorem GB.cg (g : GB N s) (e : s'.1 58 = s.1 58) : GB N s' := by
  unfold GB
  rw [e]
  exact g
/-- refuseAt, whatever the state -/
theorem j_atG (hT : TH T N s) (g : GB N s) (ht : t ≤ N) {k : Int32} (hk : ¬ k = 0) : ∃ s', mjF (d + 1) 178 [.ref 58, .int k, .int (nI t)] (mjW0 s) = some (none, mjW0 s') ∧ bdd N s' ∧ o58 s s' := by
  by_cases h : s.1 58 7 = 0
  · obtain ⟨c, hc, f⟩ := g.f h
    exact j_at hT f hc ht hk
  · exact ⟨s, j_atB hT (g.b h), g.b h, offG.rf⟩
theorem o58.Ja (o : o58 s s') : oJa s s' := offG.mono o (fun _ _ h => h) (fun _ _ h => h.elim)
theorem JB.Ja (X : JB T N q L s) (o : oJa s s') : JB T N q L s' := by
  obtain ⟨⟨a1, a2, a3, a4⟩, b, c, e, f, g, i, j⟩ := X
  have hq : q = 2 ∨ q = 30 := e
  have r : ∀ h, ¬ h = 58 → s'.1 h = s.1 h := fun h hh => funext fun j => o.1 h j (fun x => hh x.1)
  refine ⟨⟨(o.1 58 5 (by omega)).trans a1, a2, a3, fun k hk => ?_⟩, b.lr (funext fun j => o.2.1 62 j (by omega)), c, e, ?_, ?_, ?_, ?_⟩
  · rw [r 60 (by decide), r 61 (by decide)]; exact a4 k hk
  · rw [o.2.2]; exact f
  · unfold pnm; rw [r _ (by omega)]; exact g
  · rw [r _ (by omega)]; exact i
  · unfold RDR; rw [r 65 (by decide), r 66 (by decide), r 67 (by decide)]; exact j
theorem uL_off {h j : Nat} {v : Int64} (hh : h = 72 ∨ h = 73) : oJa s (uL s h (vp_updL (s.2.1 h) j v)) := offG.wl hh
theorem L57_S (R : mjR) (n a : Nat) (b e f : Int32) (hp : mjH) : L_57_2 R (n + 1) a b e f hp = b_57_2 R (L_57_2 R n) a b e f hp := rfl
/-- judgeNamesOf -/
theorem lq_57 (hc : c < L.length) : ∀ (r i m : Nat) (s : mjSt3), i + r = nmL L c → r < m → JB T N q L s → GB N s → (∀ j, j < i → s.2.1 73 (5 * c + j) = s.2.1 62 ((hC L c).1 + 2 + 2 * j)) → ∃ s', L_57_2 (mjF (d + 1)) m 71 (nI c) (nI (hC L c).1) (nI i) (mjW0 s) = some (none, mjW0 s') ∧ GB N s' ∧ (s'.1 58 7 = 0 ↔ s.1 58 7 = 0 ∧ ∀ a, i ≤ a → a < nmL L c → ∀ b, b < a → ¬ kyT T ((hC L c).1 + 2 + 2 * b) = kyT T ((hC L c).1 + 2 + 2 * a)) ∧ oJa s s' ∧ s'.2.1 72 = s.2.1 72 ∧ (∀ j, ¬ (5 * c ≤ j ∧ j < 5 * c + nmL L c) → s'.2.1 73 j = s.2.1 73 j) ∧ ∀ j, j < nmL L c → s'.2.1 73 (5 * c + j) = s.2.1 62 ((hC L c).1 + 2 + 2 * j)
  | 0, i, m + 1, s, e, _, X, g, w => by
    obtain ⟨x1, x2, x3, x4, x5, x6, x7, x8⟩ := X
    have h16 := x3.1
    have n5 := vK.n5 x3 hc
    refine ⟨s, ?_, g, ⟨fun h => ⟨h, fun a h1 h2 => absurd h1 (by omega)⟩, fun h => h.1⟩, offG.rf, rfl, fun _ _ => rfl, fun j hj => w j (by omega)⟩
    rw [L57_S]
    unfold b_57_2
    rw [xg_71_2, x5.1, yg_1 x4, wya_1 x4 (by omega), (x6 c (by omega)).1, if_pos (nI_le (by omega) (by omega))]
  | r + 1, i, m + 1, s, e, hr, X, g, w => by
    have X0 := X
    obtain ⟨x1, x2, x3, x4, x5, x6, x7, x8⟩ := X
    have h16 := x3.1
    have n5 := vK.n5 x3 hc
    have hi := (x3.2 c hc).2.2.2.2 i (by show i < nmL L c; omega)
    obtain ⟨⟨cu, hcu, fcu⟩, _⟩ := id g
    obtain ⟨z, hz⟩ : ∃ z, z = uL s 73 (vp_updL (s.2.1 73) (5 * c + i) (s.2.1 62 ((hC L c).1 + 2 + 2 * i))) := ⟨_, rfl⟩
    have oz : oJa s z := by rw [hz]; exact uL_off (Or.inr rfl)
    have Xz := X0.Ja oz
    have z1 : z.1 = s.1 := by rw [hz]; rfl
    have z62 : z.2.1 62 = s.2.1 62 := by rw [hz]; exact uL_ne _ _ _ _ (by decide)
    have z72 : z.2.1 72 = s.2.1 72 := by rw [hz]; exact uL_ne _ _ _ _ (by decide)
    have z73 : ∀ j, z.2.1 73 j = if j = 5 * c + i then s.2.1 62 ((hC L c).1 + 2 + 2 * i) else s.2.1 73 j := by
      intro j
      rw [hz, uL_same]
      rfl
    have gz : GB N z := g.cg (by rw [z1])
    have wz : ∀ j, j < i + 1 → z.2.1 73 (5 * c + j) = z.2.1 62 ((hC L c).1 + 2 + 2 * j) := by
      intro j hj
      rw [z73, z62]
      by_cases ej : j = i
      · rw [ej, if_pos rfl]
      · rw [if_neg (by omega), w j (by omega)]
    have xz := Xz
    obtain ⟨y1, y2, y3, y4, y5, y6, y7, y8⟩ := xz
    have ki : fnd (fun j => decide (z.2.1 73 (5 * c + j) = z.2.1 62 ((hC L c).1 + 2 + 2 * i))) (nmL L c) = fnd (fun j => decide (kyT T ((hC L c).1 + 2 + 2 * j) = kyT T ((hC L c).1 + 2 + 2 * i))) (i + 1) := by
      have hii : (fun j => decide (z.2.1 73 (5 * c + j) = z.2.1 62 ((hC L c).1 + 2 + 2 * i))) i = true := by simpa using wz i (by omega)
      have eqk : ∀ j, j < i + 1 → (fun j => decide (z.2.1 73 (5 * c + j) = z.2.1 62 ((hC L c).1 + 2 + 2 * i))) j = (fun j => decide (kyT T ((hC L c).1 + 2 + 2 * j) = kyT T ((hC L c).1 + 2 + 2 * i))) j := by
        intro j hj
        have a := (x3.2 c hc).2.2.2.2 j (by show j < nmL L c; omega)
        dsimp only
        rw [wz j hj]
        exact decide_eq_decide.mpr (y2.2.2.1 _ _ a.2 hi.2 (Or.inr a.1) (Or.inr hi.1))
      rw [← fnd_cg eqk]
      cases hf : fnd (fun j => decide (z.2.1 73 (5 * c + j) = z.2.1 62 ((hC L c).1 + 2 + 2 * i))) (i + 1) with
      | none => exact absurd ((fnd_none.mp hf i (by omega)).symm.trans hii) (by decide)
      | some a =>
        obtain ⟨a1, a2, a3⟩ := fnd_some.mp hf
        exact fnd_some.mpr ⟨by omega, a2, a3⟩
    have pre : L_57_2 (mjF (d + 1)) (m + 1) 71 (nI c) (nI (hC L c).1) (nI i) (mjW0 s) = if nI i ≤ oI (fnd (fun j => decide (kyT T ((hC L c).1 + 2 + 2 * j) = kyT T ((hC L c).1 + 2 + 2 * i))) (i + 1)) then L_57_2 (mjF (d + 1)) m 71 (nI c) (nI (hC L c).1) (nI (i + 1)) (mjW0 z) else bN (mjF (d + 1) 178 [.ref 58, .int 4, .int (nI ((hC L c).1 + 2 + 2 * i))] (mjW0 z)) (fun hp => L_57_2 (mjF (d + 1)) m 71 (nI c) (nI (hC L c).1) (nI (i + 1)) hp) := by
      rw [L57_S]
      unfold b_57_2 b_57_71
      rw [xg_71_2, x5.1, yg_1 x4, wya_1 x4 (by omega), (x6 c (by omega)).1, if_neg (nI_ge (by omega) (by omega)), xg_71_6, xg_71_0, xV_58, tI, j_key x1 fcu hcu hi.2, bL_s, show nI c * (5 : Int32) + nI i = nI (5 * c + i) by rw [show (5 : Int32) = nI 5 from rfl, nI_mul, nI_add, Nat.mul_comm], ws_73 (by omega), ← hz, xg_71_0, xV_58, j_key (c := cu) y1 (by rw [z1]; exact fcu) hcu hi.2, bL_s, xV_71, x_58 (n := nmL L c) y4 y5.1 (by omega) (y6 c (by omega)).1 (y6 c (by omega)).2, bI_s, ki, nI_1, xg_71_0, xV_58]
    have sub : ∀ z', oJa z z' → TH T N z' → JB T N q L z' → GB N z' → z'.2.1 = z.2.1 → ∃ s', L_57_2 (mjF (d + 1)) m 71 (nI c) (nI (hC L c).1) (nI (i + 1)) (mjW0 z') = some (none, mjW0 s') ∧ GB N s' ∧ (s'.1 58 7 = 0 ↔ z'.1 58 7 = 0 ∧ ∀ a, i + 1 ≤ a → a < nmL L c → ∀ b, b < a → ¬ kyT T ((hC L c).1 + 2 + 2 * b) = kyT T ((hC L c).1 + 2 + 2 * a)) ∧ oJa s s' ∧ s'.2.1 72 = s.2.1 72 ∧ (∀ j, ¬ (5 * c ≤ j ∧ j < 5 * c + nmL L c) → s'.2.1 73 j = s.2.1 73 j) ∧ ∀ j, j < nmL L c → s'.2.1 73 (5 * c + j) = s.2.1 62 ((hC L c).1 + 2 + 2 * j) := by
      intro z' oz' _ Xz' gz' e2
      obtain ⟨s', a1, a2, a3, a4, a5, a6, a7⟩ := lq_57 hc r (i + 1) m z' (by omega) (by omega) Xz' gz' (fun j hj => by rw [e2]; exact wz j hj)
      refine ⟨s', a1, a2, a3, oz.tr (oz'.tr a4), by rw [a5, e2, z72], fun j hj => ?_, fun j hj => ?_⟩
      · rw [a6 j hj, e2, z73, if_neg (by omega)]
      · rw [a7 j hj, e2, z62]
    by_cases P : ∀ b, b < i → ¬ kyT T ((hC L c).1 + 2 + 2 * b) = kyT T ((hC L c).1 + 2 + 2 * i)
    · have ef : fnd (fun j => decide (kyT T ((hC L c).1 + 2 + 2 * j) = kyT T ((hC L c).1 + 2 + 2 * i))) (i + 1) = some i := fnd_some.mpr ⟨by omega, by simp, fun j hj => by simpa using P j hj⟩
      rw [ef, oI_s, if_pos (Int32.le_refl _)] at pre
      obtain ⟨s', a1, a2, a3, a4⟩ := sub z offG.rf y1 Xz gz rfl
      refine ⟨s', pre.trans a1, a2, ?_, a4⟩
      rw [a3, z1]
      constructor
      · intro ⟨u, v⟩
        refine ⟨u, fun a h1 h2 => ?_⟩
        by_cases ea : a = i
        · rw [ea]; exact P
        · exact v a (by omega) h2
      · intro ⟨u, v⟩
        exact ⟨u, fun a h1 h2 => v a (by omega) h2⟩
    · have ⟨b, hb⟩ : ∃ b, b < i ∧ kyT T ((hC L c).1 + 2 + 2 * b) = kyT T ((hC L c).1 + 2 + 2 * i) := by
        apply Classical.byContradiction
        intro no
        exact P (fun b h1 h2 => no ⟨b, h1, h2⟩)
      cases hf : fnd (fun j => decide (kyT T ((hC L c).1 + 2 + 2 * j) = kyT T ((hC L c).1 + 2 + 2 * i))) (i + 1) with
      | none => exact absurd (fnd_none.mp hf b (by omega)) (by simp [hb.2])
      | some a =>
        obtain ⟨a1, a2, a3⟩ := fnd_some.mp hf
        have ai : a < i := by
          apply Classical.byContradiction
          intro no
          exact absurd (a3 b (by omega)) (by simp [hb.2])
        rw [hf, oI_s, if_neg (nI_ge ai (by omega))] at pre
        obtain ⟨z', b1, b2, b3⟩ := j_atG (d := d) (k := 4) y1 gz hi.2 (by decide)
        obtain ⟨s', c1, c2, c3, c4⟩ := sub z' b3.Ja (y1.o58 b3) (Xz.Ja b3.Ja) (GB.ob b2) (by rw [b3.l])
        refine ⟨s', by rw [pre, b1, bN_s, c1], c2, ?_, c4⟩
        rw [c3]
        exact ⟨fun h => absurd h.1 b2.2, fun h => absurd (h.2 i (by omega) (by omega) b hb.1) (by simp [hb.2])⟩
end MJA7
end
section
/-! ===== (a), all CLASSES ===== -/
/-- (a) finds nothing in CLASS c -/
def OKa (T : TT) (L : List CD) (c : Nat) : Prop := (∀ b, b < c → ¬ kyT T (hC L b).1 = kyT T (hC L c).1) ∧ ∀ a, a < nmL L c → ∀ b, b < a → ¬ kyT T ((hC L c).1 + 2 + 2 * b) = kyT T ((hC L c).1 + 2 + 2 * a)
def CKu (L : List CD) (n : Nat) (s : mjSt3) : Prop := ∀ c, c < n → s.2.1 72 c = s.2.1 62 (hC L c).1 ∧ ∀ i, i < (hC L c).2.1 → s.2.1 73 (5 * c + i) = s.2.1 62 ((hC L c).1 + 2 + 2 * i)
section MJA8
variable {T : TT} {d N q c t n e k : Nat} {s s' : mjSt3} {L : List CD}
theorem L55_S (R : mjR) (n a : Nat) (b : Int32) (hp : mjH) : L_55_2 R (n + 1) a b hp = b_55_2 R (L_55_2 R n) a b hp := rfl
theorem lq_55 : ∀ (r c m : Nat) (s : mjSt3), c + r = L.length → r < m → JB T N q L s → GB N s → CKu L c s → ∃ s', L_55_2 (mjF (d + 2)) m 71 (nI c) (mjW0 s) = some (none, mjW0 s') ∧ GB N s' ∧ (s'.1 58 7 = 0 ↔ s.1 58 7 = 0 ∧ ∀ j, c ≤ j → j < L.length → OKa T L j) ∧ oJa s s' ∧ (s'.1 58 7 = 0 → CKu L L.length s')
  | 0, c, m + 1, s, e, _, X, g, w => by
    obtain ⟨x1, x2, x3, x4, x5, x6, x7, x8⟩ := X
    have h16 := x3.1
    refine ⟨s, ?_, g, ⟨fun h => ⟨h, fun a h1 h2 => absurd h1 (by omega)⟩, fun h => h.1⟩, offG.rf, fun _ => ?_⟩
    · rw [L55_S]
      unfold b_55_2
      rw [xg_71_2, x5.1, yg_0 x4, x7, if_pos (nI_le (by omega) (by omega))]
    · rw [← show c = L.length by omega]; exact w
  | r + 1, c, m + 1, s, e, hr, X, g, w => by
    have X0 := X
    obtain ⟨x1, x2, x3, x4, x5, x6, x7, x8⟩ := X
    have h16 := x3.1
    have hc : c < L.length := by omega
    have hcc := x3.2 c hc
    by_cases h7 : s.1 58 7 = 0
    · obtain ⟨cu, hcu, f⟩ := g.f h7
      obtain ⟨z, hz⟩ : ∃ z, z = uL s 72 (vp_updL (s.2.1 72) c (s.2.1 62 (hC L c).1)) := ⟨_, rfl⟩
      have oz : oJa s z := by rw [hz]; exact uL_off (Or.inl rfl)
      have Xz := X0.Ja oz
      have z1 : z.1 = s.1 := by rw [hz]; rfl
      have z62 : z.2.1 62 = s.2.1 62 := by rw [hz]; exact uL_ne _ _ _ _ (by decide)
      have z73 : z.2.1 73 = s.2.1 73 := by rw [hz]; exact uL_ne _ _ _ _ (by decide)
      have z72 : ∀ j, z.2.1 72 j = if j = c then s.2.1 62 (hC L c).1 else s.2.1 72 j := by
        intro j
        rw [hz, uL_same]
        rfl
      have gz : GB N z := g.cg (by rw [z1])
      have wz : ∀ j, j < c + 1 → z.2.1 72 j = z.2.1 62 (hC L j).1 := by
        intro j hj
        rw [z72, z62]
        by_cases ej : j = c
        · rw [ej, if_pos rfl]
        · rw [if_neg ej, (w j (by omega)).1]
      obtain ⟨y1, y2, y3, y4, y5, y6, y7, y8⟩ := id Xz
      have ki : fnd (fun j => decide (z.2.1 72 j = z.2.1 72 c)) L.length = fnd (fun j => decide (kyT T (hC L j).1 = kyT T (hC L c).1)) (c + 1) := by
        have hii : (fun j => decide (z.2.1 72 j = z.2.1 72 c)) c = true := by simp
        have eqk : ∀ j, j < c + 1 → (fun j => decide (z.2.1 72 j = z.2.1 72 c)) j = (fun j => decide (kyT T (hC L j).1 = kyT T (hC L c).1)) j := by
          intro j hj
          have a := (x3.2 j (by omega))
          dsimp only
          rw [wz j hj, wz c (by omega)]
          exact decide_eq_decide.mpr (y2.2.2.1 _ _ a.2.1 hcc.2.1 (Or.inl a.1) (Or.inl hcc.1))
        rw [← fnd_cg eqk]
        cases hf : fnd (fun j => decide (z.2.1 72 j = z.2.1 72 c)) (c + 1) with
        | none => exact absurd ((fnd_none.mp hf c (by omega)).symm.trans hii) (by decide)
        | some a =>
          obtain ⟨a1, a2, a3⟩ := fnd_some.mp hf
          exact fnd_some.mpr ⟨by omega, a2, a3⟩
      have pre : L_55_2 (mjF (d + 2)) (m + 1) 71 (nI c) (mjW0 s) = if nI c ≤ oI (fnd (fun j => decide (kyT T (hC L j).1 = kyT T (hC L c).1)) (c + 1)) then bN (mjF (d + 2) 57 [.ref 71, .int (nI c), .int (nI (hC L c).1)] (mjW0 z)) (fun hp => L_55_2 (mjF (d + 2)) m 71 (nI (c + 1)) hp) else bN (mjF (d + 2) 178 [.ref 58, .int 4, .int (nI (hC L c).1)] (mjW0 z)) (fun hp => rV hp 71 4 (bN (mjF (d + 2) 57 [.ref 71, .int (nI c), .int (nI (hC L c).1)] hp) (fun hp => L_55_2 (mjF (d + 2)) m 71 (nI (c + 1)) hp))) := by
        rw [L55_S]
        unfold b_55_2 b_55_70
        rw [xg_71_2, x5.1, yg_0 x4, x7, if_neg (nI_ge (by omega) (by omega)), xg_71_0, xV_58, j_fine f, bI_s, if_neg (by decide), xg_71_1, xg_64_3, wa_65 (by omega), (x8 c hc).1, xg_71_5, xg_71_0, xV_58, j_key x1 f.1 hcu hcc.2.1, bL_s, ws_72 (by omega), ← hz, xg_71_5, wa_72 (by omega), xV_71, x_56 y4 y5.1 y7 h16, bI_s, ki, xV_71, nI_1, xg_71_0, xV_58]
      have step : ∀ z', oJa z z' → JB T N q L z' → GB N z' → z'.2.1 = z.2.1 → ∃ s', bN (mjF (d + 2) 57 [.ref 71, .int (nI c), .int (nI (hC L c).1)] (mjW0 z')) (fun hp => L_55_2 (mjF (d + 2)) m 71 (nI (c + 1)) hp) = some (none, mjW0 s') ∧ GB N s' ∧ (s'.1 58 7 = 0 ↔ (z'.1 58 7 = 0 ∧ ∀ a, a < nmL L c → ∀ b, b < a → ¬ kyT T ((hC L c).1 + 2 + 2 * b) = kyT T ((hC L c).1 + 2 + 2 * a)) ∧ ∀ j, c + 1 ≤ j → j < L.length → OKa T L j) ∧ oJa s s' ∧ (s'.1 58 7 = 0 → CKu L L.length s') := by
        intro z' o' X' g' e2
        obtain ⟨s1, a1, a2, a3, a4, a5, a6, a7⟩ := lq_57 (d := d) hc (nmL L c) 0 mjN z' (by omega) (by have := (vK.n5 x3 hc).2; have := mjN_v; omega) X' g' (fun j hj => absurd hj (by omega))
        have e57 : mjF (d + 2) 57 [.ref 71, .int (nI c), .int (nI (hC L c).1)] (mjW0 z') = some (none, mjW0 s1) := by
          rw [e_57]
          unfold f_57 b_57_0
          exact a1
        have w1 : CKu L (c + 1) s1 := by
          have q62 : s1.2.1 62 = s.2.1 62 := by
            rw [funext fun j => a4.2.1 62 j (by omega), e2, z62]
          intro j hj
          by_cases ej : j = c
          · subst ej
            refine ⟨?_, fun i hi => ?_⟩
            · rw [a5, e2, z72, if_pos rfl, q62]
            · rw [a7 i hi, e2, q62, z62]
          · have wj := w j (by omega)
            have nj := (x3.2 j (by omega)).2.2.2.1
            refine ⟨?_, fun i hi => ?_⟩
            · rw [a5, e2, z72, if_neg ej, q62]; exact wj.1
            · rw [a6 _ (by omega), e2, z73, q62]; exact wj.2 i hi
        obtain ⟨s2, b1, b2, b3, b4, b5⟩ := lq_55 r (c + 1) m s1 (by omega) (by omega) (X'.Ja a4) a2 w1
        refine ⟨s2, by rw [e57, bN_s, b1], b2, ?_, oz.tr (o'.tr (a4.tr b4)), b5⟩
        rw [b3, a3]
        constructor
        · intro ⟨⟨u, v⟩, x⟩
          exact ⟨⟨u, fun a ha => v a (by omega) ha⟩, x⟩
        · intro ⟨⟨u, v⟩, x⟩
          exact ⟨⟨u, fun a _ ha => v a ha⟩, x⟩
      by_cases P : ∀ b, b < c → ¬ kyT T (hC L b).1 = kyT T (hC L c).1
      · have ef : fnd (fun j => decide (kyT T (hC L j).1 = kyT T (hC L c).1)) (c + 1) = some c := fnd_some.mpr ⟨by omega, by simp, fun j hj => by simpa using P j hj⟩
        rw [ef, oI_s, if_pos (Int32.le_refl _)] at pre
        obtain ⟨s', a1, a2, a3, a4⟩ := step z offG.rf Xz gz rfl
        refine ⟨s', pre.trans a1, a2, ?_, a4⟩
        rw [a3, z1]
        constructor
        · intro ⟨⟨u, v⟩, x⟩
          refine ⟨u, fun j h1 h2 => ?_⟩
          by_cases ej : j = c
          · rw [ej]; exact ⟨P, v⟩
          · exact x j (by omega) h2
        · intro ⟨u, v⟩
          exact ⟨⟨u, (v c (by omega) hc).2⟩, fun j h1 h2 => v j (by omega) h2⟩
      · have ⟨b, hb⟩ : ∃ b, b < c ∧ kyT T (hC L b).1 = kyT T (hC L c).1 := by
          apply Classical.byContradiction
          intro no
          exact P (fun b h1 h2 => no ⟨b, h1, h2⟩)
        cases hf : fnd (fun j => decide (kyT T (hC L j).1 = kyT T (hC L c).1)) (c + 1) with
        | none => exact absurd (fnd_none.mp hf b (by omega)) (by simp [hb.2])
        | some a =>
          obtain ⟨a1, a2, a3⟩ := fnd_some.mp hf
          have ai : a < c := by
            apply Classical.byContradiction
            intro no
            exact absurd (a3 b (by omega)) (by simp [hb.2])
          rw [hf, oI_s, if_neg (nI_ge ai (by omega))] at pre
          obtain ⟨z', b1, b2, b3⟩ := j_atG (d := d + 1) (k := 4) y1 gz hcc.2.1 (by decide)
          obtain ⟨s', c1, c2, c3, c4⟩ := step z' b3.Ja (Xz.Ja b3.Ja) (GB.ob b2) (by rw [b3.l])
          refine ⟨s', by rw [pre, b1, bN_s, xV_71, c1], c2, ?_, c4⟩
          rw [c3]
          exact ⟨fun h => absurd h.1.1 b2.2, fun h => absurd ((h.2 c (by omega) hc).1 b hb.1) (by simp [hb.2])⟩
    · refine ⟨s, ?_, g, ⟨fun h => absurd h h7, fun h => absurd h.1 h7⟩, offG.rf, fun h => absurd h h7⟩
      rw [L55_S]
      unfold b_55_2
      rw [xg_71_2, x5.1, yg_0 x4, x7, if_neg (nI_ge (by omega) (by omega)), xg_71_0, xV_58, j_fineB (g.b h7), bI_s, if_pos rfl]
/-- judgeNames -/
theorem x_55 (X : JB T N q L s) (g : GB N s) : ∃ s', mjF (d + 3) 55 [.ref 71] (mjW0 s) = some (none, mjW0 s') ∧ GB N s' ∧ (s'.1 58 7 = 0 ↔ s.1 58 7 = 0 ∧ ∀ j, j < L.length → OKa T L j) ∧ oJa s s' ∧ (s'.1 58 7 = 0 → CKs L s') := by
  obtain ⟨s', a1, a2, a3, a4, a5⟩ := lq_55 (d := d) L.length 0 mjN s (by omega) (by have := X.2.2.1.1; have := mjN_v; omega) X g (fun j hj => absurd hj (by omega))
  refine ⟨s', ?_, a2, ?_, a4, a5⟩
  · rw [e_55]
    unfold f_55 b_55_0
    exact a1
  · rw [a3]
    exact ⟨fun ⟨u, v⟩ => ⟨u, fun j hj => v j (by omega) hj⟩, fun ⟨u, v⟩ => ⟨u, fun j _ hj => v j hj⟩⟩
theorem JX.of (X : JB T N q L s) (c : CKs L s) : JX T N q L s := ⟨X.1, X.2.1, X.2.2.1, c, X.2.2.2.1, X.2.2.2.2.1, X.2.2.2.2.2.1, X.2.2.2.2.2.2.1⟩
end MJA8
end
section
/-! ===== (b): the KINDS behind is ===== -/
def c58 (h j : Nat) : Prop := h = 58 ∧ (j = 6 ∨ j = 7 ∨ j = 8)
/-- all that the judge changes behind (a) -/
def oJ (q : Nat) : mjSt3 → mjSt3 → Prop := offG (fun h j => c58 h j ∨ h = q + 4 ∨ h = q + 5 ∨ h = q + 8 ∨ h = q + 11 ∨ h = q + 12 ∨ h = q + 17 ∨ h = q + 19 ∨ h = q + 21) (fun h _ => h = 74 ∨ h = q + 13)
def oRow (h0 : Nat) : mjSt3 → mjSt3 → Prop := offG (fun h j => c58 h j ∨ h = h0) (fun _ _ => False)
/-- the KIND behind is -/
def abT (T : TT) (L : List CD) (c : Nat) : Option Nat := if (hC L c).2.2.1 = 0 then none else kdT T L (some c) true (hC L c).2.2.1
/-- (b) finds nothing at CLASS c's is (but a CLASS above itself) -/
def OKb (T : TT) (L : List CD) (c : Nat) : Prop := ¬ (hC L c).2.2.1 = 0 → ∃ k, kdT T L (some c) true (hC L c).2.2.1 = some k ∧ oK k 0 = 0
/-- KINDS stand behind is, NAMES in INS -/
def PFi (T : TT) (N : Nat) (L : List CD) : Prop := ∀ c, c < L.length → (¬ (hC L c).2.2.1 = 0 → KDk T N (hC L c).2.2.1) ∧ (hC L c).2.2.2.2 ≤ 8 ∧ ∀ i, i < (hC L c).2.2.2.2 → (T ((hC L c).2.2.2.1 + 4 * i)).1 = 3 ∧ (T ((hC L c).2.2.2.1 + 4 * i + 2)).1 = 3 ∧ (hC L c).2.2.2.1 + 4 * i + 2 ≤ N
section MJA9
variable {T : TT} {d N q c t n e k h0 : Nat} {s s' : mjSt3} {L : List CD}
theorem o58.row (o : o58 s s') : oRow h0 s s' := offG.mono o (fun _ _ h => Or.inl h) (fun _ _ h => h.elim)
theorem oRow.r (o : oRow h0 s s') {h : Nat} (h1 : ¬ h = 58) (h2 : ¬ h = h0) : s'.1 h = s.1 h := funext fun j => o.1 h j (fun e => e.elim (fun e => h1 e.1) h2)
theorem oRow.l (o : oRow h0 s s') : s'.2 = s.2 := by
  have a : s'.2.1 = s.2.1 := funext fun h => funext fun j => o.2.1 h j (fun e => e)
  exact Prod.ext a o.2.2
theorem oRow.w {v : Int32} {j : Nat} : oRow h0 s (uI s h0 (upd (s.1 h0) j v)) := offG.w (Or.inr rfl)
theorem JX.oJ (X : JX T N q L s) (o : oJ q s s') : JX T N q L s' := by
  obtain ⟨⟨a1, a2, a3, a4⟩, b, c, e, f, g, i, j⟩ := X
  have hq : q = 2 ∨ q = 30 := f
  have r : ∀ h, h = 60 ∨ h = 61 ∨ h = q ∨ h = q + 1 → s'.1 h = s.1 h := fun h hh => funext fun j => o.1 h j (by unfold c58; omega)
  have l : ∀ h, h = 62 ∨ h = 72 ∨ h = 73 → s'.2.1 h = s.2.1 h := fun h hh => funext fun j => o.2.1 h j (by omega)
  refine ⟨⟨(o.1 58 5 (by unfold c58; omega)).trans a1, a2, a3, fun k hk => ?_⟩, b.lr (l 62 (by omega)), c, ?_, f, ?_, ?_, ?_⟩
  · rw [r 60 (by omega), r 61 (by omega)]; exact a4 k hk
  · unfold CKs; rw [l 72 (by omega), l 73 (by omega), l 62 (by omega)]; exact e
  · rw [o.2.2]; exact g
  · unfold pnm; rw [r _ (by omega)]; exact i
  · rw [r _ (by omega)]; exact j
theorem RDR.oJ (X : RDR L s) (hq : isP q) (o : oJ q s s') : RDR L s' := by
  have hq : q = 2 ∨ q = 30 := hq
  have r : ∀ h, h = 65 ∨ h = 66 ∨ h = 67 → s'.1 h = s.1 h := fun h hh => funext fun j => o.1 h j (by unfold c58; omega)
  unfold RDR
  rw [r 65 (by omega), r 66 (by omega), r 67 (by omega)]
  exact X
theorem oRow.J (o : oRow h0 s s') (h : h0 = q + 4 ∨ h0 = q + 5 ∨ h0 = q + 8 ∨ h0 = q + 11 ∨ h0 = q + 12 ∨ h0 = q + 17 ∨ h0 = q + 19 ∨ h0 = q + 21) : oJ q s s' := offG.mono o (fun x y z => z.elim Or.inl (fun z => Or.inr (by omega))) (fun _ _ z => z.elim)
theorem GB.row (g : GB N s) (e : ∀ j, s'.1 58 j = s.1 58 j) : GB N s' := g.cg (funext e)
theorem L59_S (R : mjR) (n a : Nat) (b : Int32) (hp : mjH) : L_59_2 R (n + 1) a b hp = b_59_2 R (L_59_2 R n) a b hp := rfl
theorem lq_59 (P : PFi T N L) (tr : Bool) : ∀ (r c m : Nat) (s : mjSt3), c + r = L.length → r < m → JX T N q L s → s.1 71 4 = b2 tr → RDR L s → GB N s → (∀ j, j < c → s.1 (q + 5) j = oI (abT T L j)) → (∀ j, c ≤ j → j < 16 → s.1 (q + 5) j = -1) → ∃ s', L_59_2 (mjF (d + 3)) m 71 (nI c) (mjW0 s) = some (none, mjW0 s') ∧ GB N s' ∧ (s'.1 58 7 = 0 ↔ s.1 58 7 = 0 ∧ ∀ j, c ≤ j → j < L.length → OKb T L j) ∧ oRow (q + 5) s s' ∧ (s'.1 58 7 = 0 → ∀ j, j < 16 → s'.1 (q + 5) j = if j < L.length then oI (abT T L j) else -1)
  | 0, c, m + 1, s, e, _, X, ht, D, g, w, w' => by
    obtain ⟨x1, x2, x3, x4, x5, x6, x7, x8⟩ := X
    have h16 := x3.1
    refine ⟨s, ?_, g, ⟨fun h => ⟨h, fun a h1 h2 => absurd h1 (by omega)⟩, fun h => h.1⟩, offG.rf, fun _ j hj => ?_⟩
    · rw [L59_S]
      unfold b_59_2
      rw [xg_71_2, x6.1, yg_0 x5, x8, if_pos (nI_le (by omega) (by omega))]
    · by_cases hl : j < L.length
      · rw [if_pos hl]; exact w j (by omega)
      · rw [if_neg hl]; exact w' j (by omega) hj
  | r + 1, c, m + 1, s, e, hr, X, ht, D, g, w, w' => by
    have X0 := X
    obtain ⟨x1, x2, x3, x4, x5, x6, x7, x8⟩ := X
    have h16 := x3.1
    have hN := x1.2.1
    have hc : c < L.length := by omega
    have hq : q = 2 ∨ q = 30 := x5
    by_cases h7 : s.1 58 7 = 0
    · obtain ⟨cu, hcu, f⟩ := g.f h7
      have pre : L_59_2 (mjF (d + 3)) (m + 1) 71 (nI c) (mjW0 s) = _ := L59_S _ _ _ _ _
      unfold b_59_2 b_59_86 at pre
      rw [xg_71_2, x6.1, yg_0 x5, x8, if_neg (nI_ge (by omega) (by omega)), xg_71_0, xV_58, j_fine f, bI_s, if_neg (by decide), xg_71_1, xg_64_4, wa_66 (by omega), (D c hc).2.1] at pre
      by_cases hz : (hC L c).2.2.1 = 0
      · rw [if_pos hz, if_pos rfl, nI_1] at pre
        have ea : abT T L c = none := by unfold abT; rw [if_pos hz]
        obtain ⟨s', a1, a2, a3, a4, a5⟩ := lq_59 P tr r (c + 1) m s (by omega) (by omega) X0 ht D g (fun j hj => by
          by_cases ej : j = c
          · rw [ej, ea, w' c (by omega) (by omega)]; rfl
          · exact w j (by omega)) (fun j h1 h2 => w' j (by omega) h2)
        refine ⟨s', pre.trans a1, a2, ?_, a4, a5⟩
        rw [a3]
        constructor
        · intro ⟨u, v⟩
          refine ⟨u, fun j h1 h2 => ?_⟩
          by_cases ej : j = c
          · rw [ej]; exact fun h => absurd hz h
          · exact v j (by omega) h2
        · intro ⟨u, v⟩
          exact ⟨u, fun j h1 h2 => v j (by omega) h2⟩
      · have KD := (P c hc).1 hz
        have kl := KD.2.2.2.1
        have hi1 : nI ((hC L c).2.2.1 - 1) + 1 = nI (hC L c).2.2.1 := by rw [nI_1, show (hC L c).2.2.1 - 1 + 1 = (hC L c).2.2.1 by omega]
        rw [if_neg hz, if_neg (nI_m1 (by omega)), xg_71_0, xV_58, hi1, j_go x1 f hcu (by omega), bN_s, xV_71] at pre
        obtain ⟨z, hzz⟩ : ∃ z, z = tkGo s (hC L c).2.2.1 := ⟨_, rfl⟩
        have oz : o58 s z := by rw [hzz]; exact o58.go _ _
        have fz : fne z (hC L c).2.2.1 := by rw [hzz]; exact f.go _
        have Xz := X0.o58 oz
        rw [← hzz] at pre
        have K := x_60 (d := d) (iN := fun _ => 0) (ip := fun _ _ => (0, 0)) (kn := fun _ _ _ => true) (h := some c) Xz (fun c' h => by cases h; exact hc) fz KD true tr (by rw [oz.r (by decide)]; exact ht) (Or.inl rfl)
        -- the rest of the loop
        have rest : ∀ (z2 : mjSt3), oRow (q + 5) s z2 → GB N z2 → (∀ j, ¬ j = c → z2.1 (q + 5) j = s.1 (q + 5) j) → (z2.1 58 7 = 0 → z2.1 (q + 5) c = oI (abT T L c)) → (z2.1 58 7 = 0 ↔ OKb T L c) → ∃ s', L_59_2 (mjF (d + 3)) m 71 (nI (c + 1)) (mjW0 z2) = some (none, mjW0 s') ∧ GB N s' ∧ (s'.1 58 7 = 0 ↔ s.1 58 7 = 0 ∧ ∀ j, c ≤ j → j < L.length → OKb T L j) ∧ oRow (q + 5) s s' ∧ (s'.1 58 7 = 0 → ∀ j, j < 16 → s'.1 (q + 5) j = if j < L.length then oI (abT T L j) else -1) := by
          intro z2 o2 g2 r2 v2 i2
          have X2 := X0.oJ (o2.J (q := q) (by omega))
          by_cases z7 : z2.1 58 7 = 0
          · obtain ⟨s', a1, a2, a3, a4, a5⟩ := lq_59 P tr r (c + 1) m z2 (by omega) (by omega) X2 (by rw [o2.r (by decide) (by omega)]; exact ht) (D.oJ x5 (o2.J (by omega))) g2 (fun j hj => by
              by_cases ej : j = c
              · rw [ej]; exact v2 z7
              · rw [r2 j ej]; exact w j (by omega)) (fun j h1 h2 => by rw [r2 j (by omega)]; exact w' j (by omega) h2)
            refine ⟨s', a1, a2, ?_, o2.tr a4, a5⟩
            rw [a3]
            constructor
            · intro ⟨u, v⟩
              refine ⟨h7, fun j h1 h2 => ?_⟩
              by_cases ej : j = c
              · rw [ej]; exact i2.mp z7
              · exact v j (by omega) h2
            · intro ⟨u, v⟩
              exact ⟨z7, fun j h1 h2 => v j (by omega) h2⟩
          · refine ⟨z2, ?_, g2, ⟨fun h => absurd h z7, fun h => absurd (i2.mpr (h.2 c (by omega) hc)) z7⟩, o2, fun h => absurd h z7⟩
            obtain ⟨m', rfl⟩ : ∃ m', m = m' + 1 := ⟨m - 1, by omega⟩
            rw [L59_S]
            unfold b_59_2
            rw [xg_71_2, X2.2.2.2.2.2.1.1, yg_0 x5, X2.2.2.2.2.2.2.2]
            by_cases hl : L.length ≤ c + 1
            · rw [if_pos (nI_le hl (by omega))]
            · rw [if_neg (nI_ge (by omega) (by omega)), xg_71_0, xV_58, j_fineB (g2.b z7), bI_s, if_pos rfl]
        have wr : ∀ (z1 : mjSt3) (v : Int32), o58 s z1 → oRow (q + 5) s (uI z1 (q + 5) (upd (z1.1 (q + 5)) c v)) ∧ (∀ j, ¬ j = c → (uI z1 (q + 5) (upd (z1.1 (q + 5)) c v)).1 (q + 5) j = s.1 (q + 5) j) ∧ (uI z1 (q + 5) (upd (z1.1 (q + 5)) c v)).1 (q + 5) c = v ∧ (uI z1 (q + 5) (upd (z1.1 (q + 5)) c v)).1 58 = z1.1 58 := by
          intro z1 v o1
          refine ⟨o1.row.tr oRow.w, fun j hj => ?_, ?_, uI_ne _ _ _ _ (by omega)⟩
          · rw [uI_same, upd_g, if_neg hj, o1.r (by omega)]
          · rw [uI_same, upd_g, if_pos rfl]
        cases hk : kdT T L (some c) true (hC L c).2.2.1 with
        | none =>
          rw [hk] at K
          obtain ⟨z1, k1, k2, k3⟩ := K
          have o1 : o58 s z1 := oz.tr k3
          obtain ⟨q1, q2, q3, q4⟩ := wr z1 (nI 0) o1
          rw [oI_s] at k1
          rw [show b2 true = 1 from rfl] at k1
          rw [k1, bI_s, xg_71_2, o1.l, x6.1, yg_5 x5, wys_5 x5 (by omega), show (0 : Int32) = nI 0 from rfl, x_106 (by omega) (by omega), bI_s, if_pos (show nI (oK 0 0) = nI 0 by decide), nI_1] at pre
          obtain ⟨s', a⟩ := rest _ q1 ((GB.ob k2).cg q4) q2 (fun h => absurd (by rw [← q4]; exact h) k2.2) ⟨fun h => absurd (by rw [← q4]; exact h) k2.2, fun h => by obtain ⟨kk, u, v⟩ := h hz; rw [hk] at u; cases u⟩
          exact ⟨s', pre.trans a.1, a.2⟩
        | some kk =>
          rw [hk] at K
          dsimp only at K
          rw [Bool.true_or, Bool.true_or, if_pos rfl] at K
          obtain ⟨_, _, _, _, _, _, v⟩ := kd_v x3 (fun c' h => by cases h; exact hc) hk
          have vl := v.lt x3
          obtain ⟨z1, hz1⟩ : ∃ z1, z1 = tkGo z ((hC L c).2.2.1 + 2 + 2 * cntO T 6 ((hC L c).2.2.1 + 2)) := ⟨_, rfl⟩
          have o1 : o58 s z1 := by rw [hz1]; exact oz.tr (o58.go _ _)
          have f1 : fne z1 ((hC L c).2.2.1 + 2 + 2 * cntO T 6 ((hC L c).2.2.1 + 2)) := by rw [hz1]; exact fz.go _
          rw [← hz1] at K
          obtain ⟨q1, q2, q3, q4⟩ := wr z1 (nI kk) o1
          rw [oI_s] at K
          rw [show b2 true = 1 from rfl] at K
          rw [K, bI_s, xg_71_2, o1.l, x6.1, yg_5 x5, wys_5 x5 (by omega), show (0 : Int32) = nI 0 from rfl, x_106 (by omega) (by omega), bI_s, nI_1] at pre
          have ea : abT T L c = some kk := by unfold abT; rw [if_neg hz, hk]
          have g1 : GB N (uI z1 (q + 5) (upd (z1.1 (q + 5)) c (nI kk))) := (GB.of f1 (by omega)).cg q4
          have o8 := oK_lt kk 0
          by_cases g0 : oK kk 0 = 0
          · rw [if_pos (show nI (oK kk 0) = nI 0 by rw [g0])] at pre
            obtain ⟨s', a⟩ := rest _ q1 g1 q2 (fun _ => by rw [q3, ea]; rfl) ⟨fun _ _ => ⟨kk, hk, g0⟩, fun _ => by rw [q4]; exact f1.2⟩
            exact ⟨s', pre.trans a.1, a.2⟩
          · rw [if_neg (show ¬ nI (oK kk 0) = nI 0 from fun x => g0 ((nI_eq (by omega) (by omega)).mp x)), xg_71_0, xV_58] at pre
            obtain ⟨z3, b1, b2, b3⟩ := j_atG (d := d + 2) (k := 11) (t := (hC L c).2.2.1 - 1) (X0.oJ (q1.J (q := q) (by omega))).1 g1 (by omega) (by decide)
            rw [b1, bN_s] at pre
            obtain ⟨s', a⟩ := rest z3 (q1.tr b3.row) (GB.ob b2) (fun j hj => by rw [b3.r (by omega)]; exact q2 j hj) (fun h => absurd h b2.2) ⟨fun h => absurd h b2.2, fun h => by obtain ⟨k2, u, v⟩ := h hz; rw [hk] at u; cases u; exact absurd v g0⟩
            exact ⟨s', pre.trans a.1, a.2⟩
    · refine ⟨s, ?_, g, ⟨fun h => absurd h h7, fun h => absurd h.1 h7⟩, offG.rf, fun h => absurd h h7⟩
      rw [L59_S]
      unfold b_59_2
      rw [xg_71_2, x6.1, yg_0 x5, x8, if_neg (nI_ge (by omega) (by omega)), xg_71_0, xV_58, j_fineB (g.b h7), bI_s, if_pos rfl]
/-- judgeAboves -/
theorem x_59 (P : PFi T N L) {tr : Bool} (X : JX T N q L s) (ht : s.1 71 4 = b2 tr) (D : RDR L s) (g : GB N s) (w : ∀ j, j < 16 → s.1 (q + 5) j = -1) : ∃ s', mjF (d + 4) 59 [.ref 71] (mjW0 s) = some (none, mjW0 s') ∧ GB N s' ∧ (s'.1 58 7 = 0 ↔ s.1 58 7 = 0 ∧ ∀ j, j < L.length → OKb T L j) ∧ oRow (q + 5) s s' ∧ (s'.1 58 7 = 0 → ∀ j, j < 16 → s'.1 (q + 5) j = if j < L.length then oI (abT T L j) else -1) := by
  obtain ⟨s', a1, a2, a3, a4, a5⟩ := lq_59 (d := d) P tr L.length 0 mjN s (by omega) (by have := X.2.2.1.1; have := mjN_v; omega) X ht D g (fun j hj => absurd hj (by omega)) (fun j _ hj => w j hj)
  refine ⟨s', ?_, a2, ?_, a4, a5⟩
  · rw [e_59]
    unfold f_59 b_59_0
    exact a1
  · rw [a3]
    exact ⟨fun ⟨u, v⟩ => ⟨u, fun j hj => v j (by omega) hj⟩, fun ⟨u, v⟩ => ⟨u, fun j _ hj => v j hj⟩⟩
end MJA9
end
section
/-! ===== a CLASS above itself; (c): NAMES of INS ===== -/
def upT (T : TT) (L : List CD) (c : Nat) : Option Nat := (abT T L c).map cK
def ringW (up : Nat → Option Nat) (c : Nat) : Nat → Option Nat → Option Nat
  | 0, a => a
  | _ + 1, none => none
  | k + 1, some a => if a = c then some a else ringW up c k (up a)
def OKr (T : TT) (L : List CD) (c : Nat) : Prop := ¬ ringW (upT T L) c 16 (upT T L c) = some c
/-- the class's rows of KINDS behind is -/
def ABK (T : TT) (L : List CD) (q : Nat) (s : mjSt3) : Prop := ∀ j, j < 16 → s.1 (q + 5) j = if j < L.length then oI (abT T L j) else -1
def OKc (T : TT) (L : List CD) (c : Nat) : Prop := ∀ i, i < (hC L c).2.2.2.2 → ¬ nmK T L c (kyT T ((hC L c).2.2.2.1 + 4 * i)) = none ∧ ¬ nmK T L c (kyT T ((hC L c).2.2.2.1 + 4 * i + 2)) = none
def ipT (T : TT) (L : List CD) (c i : Nat) : Nat × Nat := ((nmK T L c (kyT T ((hC L c).2.2.2.1 + 4 * i))).getD 0, (nmK T L c (kyT T ((hC L c).2.2.2.1 + 4 * i + 2))).getD 0)
def inL (L : List CD) (c : Nat) : Nat := (hC L c).2.2.2.2
section MJA10
variable {T : TT} {d N q c t n e k h0 : Nat} {s s' : mjSt3} {L : List CD}
theorem ab_v (hn : HN T N L) (hc : c < L.length) (h : abT T L c = some k) : vK L k := by
  unfold abT at h
  by_cases g : (hC L c).2.2.1 = 0
  · rw [if_pos g] at h; cases h
  · rw [if_neg g] at h
    obtain ⟨_, _, _, _, _, _, v⟩ := kd_v hn (fun c' h => by cases h; exact hc) h
    exact v
theorem up_lt (hn : HN T N L) (hc : c < L.length) (h : upT T L c = some k) : k < L.length := by
  unfold upT at h
  cases g : abT T L c with
  | none => rw [g] at h; cases h
  | some a =>
    rw [g] at h
    cases h
    exact (ab_v hn hc g).cl hn
theorem x_up (hn : HN T N L) (hq : isP q) (A : ABK T L q s) (hc : c < L.length) : mjF (d + 2) 108 [.ref q, .int (nI c)] (mjW0 s) = some (some (.int (oI (upT T L c))), mjW0 s) := by
  have h16 := hn.1
  exact x_above hq (by omega) (by rw [A c (by omega), if_pos hc]) (fun k h => by have := (ab_v hn hc h).lt hn; omega)
theorem L63_S (R : mjR) (n a : Nat) (b : Int32) (hp : mjH) : L_63_2 R (n + 1) a b hp = b_63_2 R (L_63_2 R n) a b hp := rfl
theorem L63b_S (R : mjR) (k2 : Nat → Int32 → mjH → mjU) (n a : Nat) (b e f : Int32) (hp : mjH) : L_63_34 R k2 (n + 1) a b e f hp = b_63_34 R k2 (L_63_34 R k2 n) a b e f hp := rfl
theorem ring_at (hn : HN T N L) {a : Option Nat} : ∀ {r : Nat}, (∀ x, a = some x → x < L.length) → ∀ x, ringW (upT T L) c r a = some x → x < L.length := by
  intro r
  induction r generalizing a with
  | zero => intro h x e; exact h x e
  | succ r ih =>
    intro h x e
    cases a with
    | none => cases e
    | some y =>
      unfold ringW at e
      by_cases g : y = c
      · rw [if_pos g] at e; cases e; exact h _ rfl
      · rw [if_neg g] at e
        exact ih (fun z hz => up_lt hn (h y rfl) hz) x e
theorem lq_63b (X : JX T N q L s) (A : ABK T L q s) (k2 : Nat → Int32 → mjH → mjU) (hc : c < L.length) : ∀ (r i m : Nat) (a : Option Nat), i + r = 16 → r < m → (∀ x, a = some x → x < L.length) → L_63_34 (mjF (d + 2)) k2 m 71 (nI c) (oI a) (nI i) (mjW0 s) = b_63_65 (mjF (d + 2)) k2 71 (nI c) (oI (ringW (upT T L) c r a)) (mjW0 s)
  | 0, i, m + 1, a, e, _, _ => by
    rw [L63b_S]
    unfold b_63_34
    rw [if_pos (show (16 : Int32) ≤ nI i from nI_le (a := 16) (by omega) (by omega))]
    rfl
  | r + 1, i, m + 1, a, e, hr, ha => by
    obtain ⟨x1, x2, x3, x4, x5, x6, x7, x8⟩ := X
    have h16 := x3.1
    rw [L63b_S]
    unfold b_63_34
    rw [if_neg (show ¬ (16 : Int32) ≤ nI i from nI_ge (b := 16) (by omega) (by decide))]
    cases a with
    | none =>
      rw [oI_n, if_pos rfl]
      rfl
    | some x =>
      have hx := ha x rfl
      rw [oI_s, if_neg (nI_m1 (by omega))]
      by_cases g : x = c
      · rw [if_pos (show nI x = nI c by rw [g])]
        unfold ringW
        rw [if_pos g]
        rfl
      · rw [if_neg (show ¬ nI x = nI c from fun y => g ((nI_eq (by omega) (by omega)).mp y)), xg_71_2, x6.1, yV x5, x_up x3 x5 A hx, bI_s, nI_1, lq_63b ⟨x1, x2, x3, x4, x5, x6, x7, x8⟩ A k2 hc r (i + 1) m (upT T L x) (by omega) (by omega) (fun z hz => up_lt x3 hx hz)]
        have er : ringW (upT T L) c (r + 1) (some x) = if x = c then some x else ringW (upT T L) c r (upT T L x) := rfl
        rw [er, if_neg g]
theorem lq_63 (P : PFi T N L) : ∀ (r c m : Nat) (s : mjSt3), c + r = L.length → r < m → JX T N q L s → RDR L s → ABK T L q s → GB N s → ∃ s', L_63_2 (mjF (d + 2)) m 71 (nI c) (mjW0 s) = some (none, mjW0 s') ∧ GB N s' ∧ (s'.1 58 7 = 0 ↔ s.1 58 7 = 0 ∧ ∀ j, c ≤ j → j < L.length → OKr T L j) ∧ o58 s s'
  | 0, c, m + 1, s, e, _, X, D, A, g => by
    obtain ⟨x1, x2, x3, x4, x5, x6, x7, x8⟩ := X
    have h16 := x3.1
    refine ⟨s, ?_, g, ⟨fun h => ⟨h, fun a h1 h2 => absurd h1 (by omega)⟩, fun h => h.1⟩, offG.rf⟩
    rw [L63_S]
    unfold b_63_2
    rw [xg_71_2, x6.1, yg_0 x5, x8, if_pos (nI_le (by omega) (by omega))]
  | r + 1, c, m + 1, s, e, hr, X, D, A, g => by
    have X0 := X
    obtain ⟨x1, x2, x3, x4, x5, x6, x7, x8⟩ := X
    have h16 := x3.1
    have hN := x1.2.1
    have hc : c < L.length := by omega
    have hq : q = 2 ∨ q = 30 := x5
    by_cases h7 : s.1 58 7 = 0
    · obtain ⟨cu, hcu, f⟩ := g.f h7
      have pre : L_63_2 (mjF (d + 2)) (m + 1) 71 (nI c) (mjW0 s) = _ := L63_S _ _ _ _ _
      unfold b_63_2 at pre
      have lb := lq_63b (d := d) X0 A (L_63_2 (mjF (d + 2)) m) hc 16 0 mjN (upT T L c) (by omega) (by have := mjN_v; omega) (fun x hx => up_lt x3 hc hx)
      rw [xg_71_2, x6.1, yg_0 x5, x8, if_neg (nI_ge (by omega) (by omega)), xg_71_0, xV_58, j_fine f, bI_s, if_neg (by decide), xg_71_2, x6.1, yV x5, x_up x3 x5 A hc, bI_s, show (0 : Int32) = nI 0 from rfl, lb] at pre
      unfold b_63_65 b_63_88 at pre
      by_cases R : ringW (upT T L) c 16 (upT T L c) = some c
      · rw [R, oI_s, if_pos rfl, xg_71_0, xg_71_1, xg_64_4, wa_66 (by omega), xV_58, nI_1, (D c hc).2.1] at pre
        have hz : ¬ (hC L c).2.2.1 = 0 := by
          intro hz
          have e1 : upT T L c = none := by unfold upT abT; rw [if_pos hz]; rfl
          rw [e1] at R
          cases R
        have kl := ((P c hc).1 hz).2.2.2.1
        rw [if_neg hz] at pre
        obtain ⟨z, b1, b2, b3⟩ := j_atG (d := d + 1) (k := 11) (t := (hC L c).2.2.1 - 1) x1 g (by omega) (by decide)
        rw [b1, bN_s] at pre
        have Xz := X0.o58 b3
        refine ⟨z, pre.trans ?_, GB.ob b2, ⟨fun h => absurd h b2.2, fun h => absurd R (h.2 c (by omega) hc)⟩, b3⟩
        obtain ⟨m', rfl⟩ : ∃ m', m = m' + 1 := ⟨m - 1, by omega⟩
        rw [L63_S]
        unfold b_63_2
        rw [xg_71_2, Xz.2.2.2.2.2.1.1, yg_0 x5, Xz.2.2.2.2.2.2.2]
        by_cases hl : L.length ≤ c + 1
        · rw [if_pos (nI_le hl (by omega))]
        · rw [if_neg (nI_ge (by omega) (by omega)), xg_71_0, xV_58, j_fineB b2, bI_s, if_pos rfl]
      · have nR : ¬ oI (ringW (upT T L) c 16 (upT T L c)) = nI c := by
          intro y
          cases hw : ringW (upT T L) c 16 (upT T L c) with
          | none => rw [hw] at y; exact absurd y.symm (nI_m1 (by omega))
          | some x =>
            have hx := ring_at x3 (fun x hx => up_lt x3 hc hx) x hw
            rw [hw, oI_s] at y
            have := (nI_eq (by omega) (by omega)).mp y
            rw [this] at hw
            exact R hw
        rw [if_neg nR, nI_1] at pre
        obtain ⟨s', a1, a2, a3, a4⟩ := lq_63 P r (c + 1) m s (by omega) (by omega) X0 D A g
        refine ⟨s', pre.trans a1, a2, ?_, a4⟩
        rw [a3]
        constructor
        · intro ⟨u, v⟩
          refine ⟨u, fun j h1 h2 => ?_⟩
          by_cases ej : j = c
          · rw [ej]; exact R
          · exact v j (by omega) h2
        · intro ⟨u, v⟩
          exact ⟨u, fun j h1 h2 => v j (by omega) h2⟩
    · refine ⟨s, ?_, g, ⟨fun h => absurd h h7, fun h => absurd h.1 h7⟩, offG.rf⟩
      rw [L63_S]
      unfold b_63_2
      rw [xg_71_2, x6.1, yg_0 x5, x8, if_neg (nI_ge (by omega) (by omega)), xg_71_0, xV_58, j_fineB (g.b h7), bI_s, if_pos rfl]
/-- judgeCircles -/
theorem x_63 (P : PFi T N L) (X : JX T N q L s) (D : RDR L s) (A : ABK T L q s) (g : GB N s) : ∃ s', mjF (d + 3) 63 [.ref 71] (mjW0 s) = some (none, mjW0 s') ∧ GB N s' ∧ (s'.1 58 7 = 0 ↔ s.1 58 7 = 0 ∧ ∀ j, j < L.length → OKr T L j) ∧ o58 s s' := by
  obtain ⟨s', a1, a2, a3, a4⟩ := lq_63 (d := d) P L.length 0 mjN s (by omega) (by have := X.2.2.1.1; have := mjN_v; omega) X D A g
  refine ⟨s', ?_, a2, ?_, a4⟩
  · rw [e_63]
    unfold f_63 b_63_0
    exact a1
  · rw [a3]
    exact ⟨fun ⟨u, v⟩ => ⟨u, fun j hj => v j (by omega) hj⟩, fun ⟨u, v⟩ => ⟨u, fun j _ hj => v j hj⟩⟩
/-- nameInIn -/
theorem x_65 (X : JX T N q L s) (g : GB N s) (hc : c < L.length) (ht : t ≤ N) (hT : (T t).1 = 3) : ∃ s', mjF (d + 2) 65 [.ref 71, .int (nI c), .int (nI t)] (mjW0 s) = some (some (.int (oI (nmK T L c (kyT T t)))), mjW0 s') ∧ GB N s' ∧ (s'.1 58 7 = 0 ↔ s.1 58 7 = 0 ∧ ¬ nmK T L c (kyT T t) = none) ∧ o58 s s' := by
  obtain ⟨x1, x2, x3, x4, x5, x6, x7, x8⟩ := X
  have h16 := x3.1
  obtain ⟨⟨cu, hcu, fcu⟩, _⟩ := id g
  have pre : mjF (d + 2) 65 [.ref 71, .int (nI c), .int (nI t)] (mjW0 s) = _ := e_65 (d := d + 1)
  unfold f_65 b_65_0 b_65_28 at pre
  rw [xg_71_0, xV_58, j_key x1 fcu hcu ht, bL_s, xV_71, x_58 (n := nmL L c) x5 x6.1 (by omega) (x7 c (by omega)).1 (x7 c (by omega)).2, bI_s, show fnd _ (nmL L c) = _ from fn_nm x2 x3 x4 hc ht hT] at pre
  cases h : nmK T L c (kyT T t) with
  | none =>
    rw [h, oI_n, if_pos rfl, xg_71_0, xV_58] at pre
    obtain ⟨z, b1, b2, b3⟩ := j_atG (d := d) (k := 5) x1 g ht (by decide)
    rw [b1, bN_s] at pre
    exact ⟨z, pre, GB.ob b2, ⟨fun u => absurd u b2.2, fun u => absurd rfl u.2⟩, b3⟩
  | some i =>
    have hi := fnd_lt h
    have n5 := (vK.n5 x3 hc).2
    rw [h, oI_s, if_neg (nI_m1 (by show i < 2 ^ 31; have : i < nmL L c := hi; omega))] at pre
    exact ⟨s, pre, g, ⟨fun u => ⟨u, fun v => by cases v⟩, fun u => u.1⟩, offG.rf⟩
theorem L64_S (R : mjR) (n a : Nat) (b : Int32) (hp : mjH) : L_64_2 R (n + 1) a b hp = b_64_2 R (L_64_2 R n) a b hp := rfl
theorem L64b_S (R : mjR) (k2 : Nat → Int32 → mjH → mjU) (n a : Nat) (b e : Int32) (hp : mjH) : L_64_25 R k2 (n + 1) a b e hp = b_64_25 R k2 (L_64_25 R k2 n) a b e hp := rfl
theorem lq_64b (P : PFi T N L) (k2 : Nat → Int32 → mjH → mjU) (hc : c < L.length) : ∀ (r i m : Nat) (s : mjSt3), i + r = inL L c → r < m → JX T N q L s → RDR L s → s.1 (q + 3) c = nI (inL L c) → GB N s → (s.1 58 7 = 0 → ∀ j, j < i → s.1 (q + 4) (8 * c + j) = nI (7 * (ipT T L c j).1 + (ipT T L c j).2) ∧ (ipT T L c j).1 ≤ 4 ∧ (ipT T L c j).2 ≤ 4) → ∃ s', L_64_25 (mjF (d + 2)) k2 m 71 (nI c) (nI i) (mjW0 s) = k2 71 (nI (c + 1)) (mjW0 s') ∧ GB N s' ∧ (s'.1 58 7 = 0 ↔ s.1 58 7 = 0 ∧ ∀ j, i ≤ j → j < inL L c → ¬ nmK T L c (kyT T ((hC L c).2.2.2.1 + 4 * j)) = none ∧ ¬ nmK T L c (kyT T ((hC L c).2.2.2.1 + 4 * j + 2)) = none) ∧ oRow (q + 4) s s' ∧ (∀ j, ¬ (8 * c ≤ j ∧ j < 8 * c + 8) → s'.1 (q + 4) j = s.1 (q + 4) j) ∧ (s'.1 58 7 = 0 → ∀ j, j < inL L c → s'.1 (q + 4) (8 * c + j) = nI (7 * (ipT T L c j).1 + (ipT T L c j).2) ∧ (ipT T L c j).1 ≤ 4 ∧ (ipT T L c j).2 ≤ 4)
  | 0, i, m + 1, s, e, _, X, D, hI, g, w => by
    obtain ⟨x1, x2, x3, x4, x5, x6, x7, x8⟩ := X
    have h16 := x3.1
    have h8 : inL L c ≤ 8 := (P c hc).2.1
    refine ⟨s, ?_, g, ⟨fun h => ⟨h, fun a h1 h2 => absurd h1 (by omega)⟩, fun h => h.1⟩, offG.rf, fun _ _ => rfl, fun h j hj => w h j (by omega)⟩
    rw [L64b_S]
    unfold b_64_25 b_64_99
    rw [xg_71_2, x6.1, yg_3 x5, wya_3 x5 (by omega), hI, if_pos (nI_le (by omega) (by omega)), nI_1]
  | r + 1, i, m + 1, s, e, hr, X, D, hI, g, w => by
    have X0 := X
    obtain ⟨x1, x2, x3, x4, x5, x6, x7, x8⟩ := X
    have h16 := x3.1
    have hN := x1.2.1
    have h8 : inL L c ≤ 8 := (P c hc).2.1
    have hq : q = 2 ∨ q = 30 := x5
    have n5 := (vK.n5 x3 hc).2
    have p := (P c hc).2.2 i (by show i < inL L c; omega)
    have pre : L_64_25 (mjF (d + 2)) k2 (m + 1) 71 (nI c) (nI i) (mjW0 s) = _ := L64b_S _ _ _ _ _ _ _
    unfold b_64_25 b_64_99 at pre
    rw [xg_71_2, x6.1, yg_3 x5, wya_3 x5 (by omega), hI, if_neg (nI_ge (by omega) (by omega)), xg_71_0, xV_58] at pre
    by_cases h7 : s.1 58 7 = 0
    · obtain ⟨cu, hcu, f⟩ := g.f h7
      have h67 : s.1 67 c = nI (hC L c).2.2.2.1 := by
        rcases (D c hc).2.2 with h | h
        · have : inL L c = 0 := h
          omega
        · exact h
      rw [j_fine f, bI_s, if_neg (by decide), xg_71_1, xg_64_5, wa_67 (by omega), h67, xV_71, show nI (hC L c).2.2.2.1 + (4 : Int32) * nI i = nI ((hC L c).2.2.2.1 + 4 * i) by rw [show (4 : Int32) = nI 4 from rfl, nI_mul, nI_add]] at pre
      obtain ⟨z1, a1, a2, a3, a4⟩ := x_65 (d := d) X0 g hc (t := (hC L c).2.2.2.1 + 4 * i) (by omega) p.1
      have X1 := X0.o58 a4
      obtain ⟨z2, b1, b2', b3, b4⟩ := x_65 (d := d) X1 a2 hc (t := (hC L c).2.2.2.1 + 4 * i + 2) p.2.2 p.2.1
      have o2 : o58 s z2 := a4.tr b4
      have X2 := X0.o58 o2
      rw [a1, bI_s, xV_71, show nI ((hC L c).2.2.2.1 + 4 * i) + (2 : Int32) = nI ((hC L c).2.2.2.1 + 4 * i + 2) from nI_add _ 2, b1, bI_s, xg_71_2, X2.2.2.2.2.2.1.1, yV x5, e_109 (d := d + 1)] at pre
      unfold f_109 b_109_0 at pre
      have z7 : z2.1 58 7 = 0 ↔ ¬ nmK T L c (kyT T ((hC L c).2.2.2.1 + 4 * i)) = none ∧ ¬ nmK T L c (kyT T ((hC L c).2.2.2.1 + 4 * i + 2)) = none := by
        rw [b3, a3]
        exact ⟨fun u => ⟨u.1.2, u.2⟩, fun u => ⟨⟨h7, u.1⟩, u.2⟩⟩
      have fin : ∀ z, oRow (q + 4) s z → z.1 58 = z2.1 58 → (∀ j, ¬ (8 * c ≤ j ∧ j < 8 * c + 8) → z.1 (q + 4) j = s.1 (q + 4) j) → (z.1 58 7 = 0 → ∀ j, j < i + 1 → z.1 (q + 4) (8 * c + j) = nI (7 * (ipT T L c j).1 + (ipT T L c j).2) ∧ (ipT T L c j).1 ≤ 4 ∧ (ipT T L c j).2 ≤ 4) → L_64_25 (mjF (d + 2)) k2 (m + 1) 71 (nI c) (nI i) (mjW0 s) = L_64_25 (mjF (d + 2)) k2 m 71 (nI c) (nI (i + 1)) (mjW0 z) → (∃ s', L_64_25 (mjF (d + 2)) k2 (m + 1) 71 (nI c) (nI i) (mjW0 s) = k2 71 (nI (c + 1)) (mjW0 s') ∧ GB N s' ∧ (s'.1 58 7 = 0 ↔ s.1 58 7 = 0 ∧ ∀ j, i ≤ j → j < inL L c → ¬ nmK T L c (kyT T ((hC L c).2.2.2.1 + 4 * j)) = none ∧ ¬ nmK T L c (kyT T ((hC L c).2.2.2.1 + 4 * j + 2)) = none) ∧ oRow (q + 4) s s' ∧ (∀ j, ¬ (8 * c ≤ j ∧ j < 8 * c + 8) → s'.1 (q + 4) j = s.1 (q + 4) j) ∧ (s'.1 58 7 = 0 → ∀ j, j < inL L c → s'.1 (q + 4) (8 * c + j) = nI (7 * (ipT T L c j).1 + (ipT T L c j).2) ∧ (ipT T L c j).1 ≤ 4 ∧ (ipT T L c j).2 ≤ 4)) := by
        intro z o1 e58 r1 w1 pr
        obtain ⟨s', c1, c2, c3, c4, c5, c6⟩ := lq_64b P k2 hc r (i + 1) m z (by omega) (by omega) (X0.oJ (o1.J (q := q) (by omega))) (D.oJ x5 (o1.J (by omega))) (by rw [o1.r (by omega) (by omega)]; exact hI) (b2'.cg e58) w1
        have R : ∃ s', L_64_25 (mjF (d + 2)) k2 (m + 1) 71 (nI c) (nI i) (mjW0 s) = k2 71 (nI (c + 1)) (mjW0 s') ∧ GB N s' ∧ (s'.1 58 7 = 0 ↔ s.1 58 7 = 0 ∧ ∀ j, i ≤ j → j < inL L c → ¬ nmK T L c (kyT T ((hC L c).2.2.2.1 + 4 * j)) = none ∧ ¬ nmK T L c (kyT T ((hC L c).2.2.2.1 + 4 * j + 2)) = none) ∧ oRow (q + 4) s s' ∧ (∀ j, ¬ (8 * c ≤ j ∧ j < 8 * c + 8) → s'.1 (q + 4) j = s.1 (q + 4) j) ∧ (s'.1 58 7 = 0 → ∀ j, j < inL L c → s'.1 (q + 4) (8 * c + j) = nI (7 * (ipT T L c j).1 + (ipT T L c j).2) ∧ (ipT T L c j).1 ≤ 4 ∧ (ipT T L c j).2 ≤ 4) := by
          refine ⟨s', pr.trans c1, c2, ?_, o1.tr c4, fun j hj => (c5 j hj).trans (r1 j hj), c6⟩
          rw [c3, e58, z7]
          constructor
          · intro ⟨u, v⟩
            refine ⟨h7, fun j h1 h2 => ?_⟩
            by_cases ej : j = i
            · rw [ej]; exact u
            · exact v j (by omega) h2
          · intro ⟨u, v⟩
            exact ⟨v i (by omega) (by omega), fun j h1 h2 => v j (by omega) h2⟩
        exact R
      cases ha : nmK T L c (kyT T ((hC L c).2.2.2.1 + 4 * i)) with
      | none =>
        rw [ha, oI_n, if_pos rfl, bN_s, nI_1] at pre
        exact fin z2 o2.row rfl (fun j _ => by rw [o2.r (by omega)]) (fun h => absurd ha (z7.mp h).1) pre
      | some x =>
        have hx : x < nmL L c := fnd_lt ha
        rw [ha, oI_s, if_neg (nI_m1 (by omega))] at pre
        cases hb : nmK T L c (kyT T ((hC L c).2.2.2.1 + 4 * i + 2)) with
        | none =>
          rw [hb, oI_n, if_pos rfl, bN_s, nI_1] at pre
          exact fin z2 o2.row rfl (fun j _ => by rw [o2.r (by omega)]) (fun h => absurd hb (z7.mp h).2) pre
        | some y =>
          have hy : y < nmL L c := fnd_lt hb
          rw [hb, oI_s, if_neg (nI_m1 (by omega)), yg_4 x5, show nI c * (8 : Int32) + nI i = nI (8 * c + i) by rw [show (8 : Int32) = nI 8 from rfl, nI_mul, nI_add, Nat.mul_comm], wys_4 x5 (by omega), bN_s, nI_1, show nI x * (7 : Int32) + nI y = nI (7 * x + y) by rw [show (7 : Int32) = nI 7 from rfl, nI_mul, nI_add, Nat.mul_comm]] at pre
          have ei : ipT T L c i = (x, y) := by unfold ipT; rw [ha, hb]; rfl
          refine fin _ (o2.row.tr oRow.w) (uI_ne _ _ _ _ (by omega)) (fun j hj => ?_) (fun h j hj => ?_) pre
          · rw [uI_same, upd_g, if_neg (by omega), o2.r (by omega)]
          · by_cases ej : j = i
            · rw [ej, uI_same, upd_g, if_pos rfl, ei]
              exact ⟨rfl, by show x ≤ 4; omega, by show y ≤ 4; omega⟩
            · rw [uI_same, upd_g, if_neg (by omega), o2.r (by omega)]
              exact w h7 j (by omega)
    · rw [j_fineB (g.b h7), bI_s, if_pos rfl, nI_1] at pre
      exact ⟨s, pre, g, ⟨fun h => absurd h h7, fun h => absurd h.1 h7⟩, offG.rf, fun _ _ => rfl, fun h => absurd h h7⟩
end MJA10
end
section
/-! ===== (c), all CLASSES ===== -/
section MJA11
variable {T : TT} {d N q c t n e k h0 : Nat} {s s' : mjSt3} {L : List CD}
theorem lq_64 (P : PFi T N L) : ∀ (r c m : Nat) (s : mjSt3), c + r = L.length → r < m → JX T N q L s → RDR L s → (∀ j, j < L.length → s.1 (q + 3) j = nI (inL L j)) → GB N s → (s.1 58 7 = 0 → ∀ a, a < c → ∀ j, j < inL L a → s.1 (q + 4) (8 * a + j) = nI (7 * (ipT T L a j).1 + (ipT T L a j).2) ∧ (ipT T L a j).1 ≤ 4 ∧ (ipT T L a j).2 ≤ 4) → ∃ s', L_64_2 (mjF (d + 2)) m 71 (nI c) (mjW0 s) = some (none, mjW0 s') ∧ GB N s' ∧ (s'.1 58 7 = 0 ↔ s.1 58 7 = 0 ∧ ∀ j, c ≤ j → j < L.length → OKc T L j) ∧ oRow (q + 4) s s' ∧ (s'.1 58 7 = 0 → ∀ a, a < L.length → ∀ j, j < inL L a → s'.1 (q + 4) (8 * a + j) = nI (7 * (ipT T L a j).1 + (ipT T L a j).2) ∧ (ipT T L a j).1 ≤ 4 ∧ (ipT T L a j).2 ≤ 4)
  | 0, c, m + 1, s, e, _, X, D, hI, g, w => by
    obtain ⟨x1, x2, x3, x4, x5, x6, x7, x8⟩ := X
    have h16 := x3.1
    refine ⟨s, ?_, g, ⟨fun h => ⟨h, fun a h1 h2 => absurd h1 (by omega)⟩, fun h => h.1⟩, offG.rf, fun h a ha => w h a (by omega)⟩
    rw [L64_S]
    unfold b_64_2
    rw [xg_71_2, x6.1, yg_0 x5, x8, if_pos (nI_le (by omega) (by omega))]
  | r + 1, c, m + 1, s, e, hr, X, D, hI, g, w => by
    have X0 := X
    obtain ⟨x1, x2, x3, x4, x5, x6, x7, x8⟩ := X
    have h16 := x3.1
    have hc : c < L.length := by omega
    have hq : q = 2 ∨ q = 30 := x5
    have h8 : inL L c ≤ 8 := (P c hc).2.1
    have pre : L_64_2 (mjF (d + 2)) (m + 1) 71 (nI c) (mjW0 s) = _ := L64_S _ _ _ _ _
    unfold b_64_2 at pre
    rw [xg_71_2, x6.1, yg_0 x5, x8, if_neg (nI_ge (by omega) (by omega)), xg_71_0, xV_58] at pre
    by_cases h7 : s.1 58 7 = 0
    · obtain ⟨cu, hcu, f⟩ := g.f h7
      rw [j_fine f, bI_s, if_neg (by decide)] at pre
      obtain ⟨z, a1, a2, a3, a4, a5, a6⟩ := lq_64b (d := d) P (L_64_2 (mjF (d + 2)) m) hc (inL L c) 0 mjN s (by omega) (by have := mjN_v; omega) X0 D (hI c hc) g (fun _ j hj => absurd hj (by omega))
      rw [show (0 : Int32) = nI 0 from rfl, a1] at pre
      obtain ⟨s', b1, b2', b3, b4, b5⟩ := lq_64 P r (c + 1) m z (by omega) (by omega) (X0.oJ (a4.J (q := q) (by omega))) (D.oJ x5 (a4.J (by omega))) (fun j hj => by rw [a4.r (by omega) (by omega)]; exact hI j hj) a2 (fun h a ha j hj => by
        by_cases ea : a = c
        · rw [ea] at hj ⊢; exact a6 h j hj
        · have h8a : inL L a ≤ 8 := (P a (by omega)).2.1
          rw [a5 _ (by omega)]; exact w h7 a (by omega) j hj)
      refine ⟨s', pre.trans b1, b2', ?_, a4.tr b4, b5⟩
      rw [b3, a3]
      constructor
      · intro ⟨⟨u, v⟩, x⟩
        refine ⟨u, fun j h1 h2 => ?_⟩
        by_cases ej : j = c
        · rw [ej]; exact fun i hi => v i (by omega) hi
        · exact x j (by omega) h2
      · intro ⟨u, v⟩
        exact ⟨⟨u, fun i _ hi => v c (by omega) hc i hi⟩, fun j h1 h2 => v j (by omega) h2⟩
    · rw [j_fineB (g.b h7), bI_s, if_pos rfl] at pre
      exact ⟨s, pre, g, ⟨fun h => absurd h h7, fun h => absurd h.1 h7⟩, offG.rf, fun h => absurd h h7⟩
/-- judgeIns -/
theorem x_64 (P : PFi T N L) (X : JX T N q L s) (D : RDR L s) (hI : ∀ j, j < 16 → s.1 (q + 3) j = nI (inL L j)) (g : GB N s) : ∃ s', mjF (d + 3) 64 [.ref 71] (mjW0 s) = some (none, mjW0 s') ∧ GB N s' ∧ (s'.1 58 7 = 0 ↔ s.1 58 7 = 0 ∧ ∀ j, j < L.length → OKc T L j) ∧ oRow (q + 4) s s' ∧ (s'.1 58 7 = 0 → INP q s' (inL L) (ipT T L)) := by
  have h16 := X.2.2.1.1
  have hq : q = 2 ∨ q = 30 := X.2.2.2.2.1
  obtain ⟨s', a1, a2, a3, a4, a5⟩ := lq_64 (d := d) P L.length 0 mjN s (by omega) (by have := mjN_v; omega) X D (fun j hj => hI j (by omega)) g (fun _ a ha => absurd ha (by omega))
  refine ⟨s', ?_, a2, ?_, a4, fun h c hc => ⟨?_, ?_, fun i hi => ?_⟩⟩
  · rw [e_64]
    unfold f_64 b_64_0
    exact a1
  · rw [a3]
    exact ⟨fun ⟨u, v⟩ => ⟨u, fun j hj => v j (by omega) hj⟩, fun ⟨u, v⟩ => ⟨u, fun j _ hj => v j hj⟩⟩
  · rw [a4.r (by omega) (by omega)]; exact hI c hc
  · by_cases hl : c < L.length
    · exact (P c hl).2.1
    · have : inL L c = 0 := by
        unfold inL hC
        rw [List.getElem?_eq_none (by omega)]
      omega
  · by_cases hl : c < L.length
    · exact a5 h c hl i hi
    · have : inL L c = 0 := by
        unfold inL hC
        rw [List.getElem?_eq_none (by omega)]
      omega
end MJA11
/-! ===== above: no ring, so a height ===== -/
def upI (up : Nat → Option Nat) : Nat → Nat → Option Nat
  | 0, a => some a
  | m + 1, a => match up a with
    | none => none
    | some b => upI up m b
theorem ring_ret {up : Nat → Option Nat} {c : Nat} : ∀ {m a r : Nat}, upI up m a = some c → m ≤ r → ringW up c r (some a) = some c
  | 0, a, 0, h, _ => h
  | 0, a, r + 1, h, _ => by
    cases h
    unfold ringW
    rw [if_pos rfl]
  | m + 1, a, 0, _, hr => by omega
  | m + 1, a, r + 1, h, hr => by
    unfold ringW
    by_cases e : a = c
    · rw [if_pos e, e]
    · rw [if_neg e]
      unfold upI at h
      cases hu : up a with
      | none => rw [hu] at h; cases h
      | some b =>
        rw [hu] at h
        exact ring_ret h (by omega)
theorem pigeon : ∀ (n : Nat) (f : Nat → Nat), (∀ i, i ≤ n → f i < n) → ∃ i j, i < j ∧ j ≤ n ∧ f i = f j
  | 0, f, h => absurd (h 0 (by omega)) (by omega)
  | n + 1, f, h => by
    by_cases g : ∃ i, i ≤ n ∧ f i = f (n + 1)
    · obtain ⟨i, a, b⟩ := g
      exact ⟨i, n + 1, by omega, by omega, b⟩
    · have ng : ∀ i, i ≤ n → ¬ f i = f (n + 1) := fun i a b => g ⟨i, a, b⟩
      obtain ⟨i, j, a, b, c⟩ := pigeon n (fun i => if f i = n then f (n + 1) else f i) (fun i hi => by
        have h1 := h i (by omega)
        have h2 := h (n + 1) (by omega)
        have h3 := ng i hi
        by_cases e : f i = n
        · rw [if_pos e]; omega
        · rw [if_neg e]; omega)
      have hi := ng i (by omega)
      have hj := ng j (by omega)
      refine ⟨i, j, a, by omega, ?_⟩
      by_cases e1 : f i = n
      · by_cases e2 : f j = n
        · omega
        · rw [if_pos e1, if_neg e2] at c; omega
      · by_cases e2 : f j = n
        · rw [if_neg e1, if_pos e2] at c; omega
        · rw [if_neg e1, if_neg e2] at c; exact c
theorem upI_add {up : Nat → Option Nat} : ∀ (i j a : Nat), upI up (i + j) a = match upI up i a with
    | none => none
    | some b => upI up j b
  | 0, j, a => by rw [Nat.zero_add]; rfl
  | i + 1, j, a => by
    rw [show i + 1 + j = (i + j) + 1 by omega]
    show (match up a with
      | none => none
      | some b => upI up (i + j) b) = match (match up a with
        | none => none
        | some b => upI up i b) with
      | none => none
      | some b => upI up j b
    cases up a with
    | none => rfl
    | some b => exact upI_add i j b
section MJA11b
variable {up : Nat → Option Nat} {n : Nat}
/-- no CLASS is above itself -/
def noR (up : Nat → Option Nat) (n : Nat) : Prop := ∀ c, c < n → ∀ m, m < 17 → ¬ upI up (m + 1) c = some c
theorem noR_of (hr : ∀ c, c < n → ¬ ringW up c 16 (up c) = some c) : noR up n := by
  intro c hc m hm h
  unfold upI at h
  cases hu : up c with
  | none => rw [hu] at h; cases h
  | some b =>
    rw [hu] at h
    exact hr c hc (by rw [hu]; exact ring_ret h (by omega))
theorem upI_lt (hl : ∀ c d, c < n → up c = some d → d < n) : ∀ (m a b : Nat), a < n → upI up m a = some b → b < n
  | 0, a, b, h, e => by cases e; exact h
  | m + 1, a, b, h, e => by
    unfold upI at e
    cases hu : up a with
    | none => rw [hu] at e; cases e
    | some x =>
      rw [hu] at e
      exact upI_lt hl m x b (hl a x h hu) e
theorem upI_end (h16 : n ≤ 16) (hl : ∀ c d, c < n → up c = some d → d < n) (hr : noR up n) {c : Nat} (hc : c < n) : upI up n c = none := by
  cases e : upI up n c with
  | none => rfl
  | some z =>
    exfalso
    have hs : ∀ i, i ≤ n → ∃ b, upI up i c = some b := by
      intro i hi
      have := upI_add (up := up) i (n - i) c
      rw [show i + (n - i) = n by omega, e] at this
      cases h : upI up i c with
      | none => rw [h] at this; cases this
      | some b => exact ⟨b, rfl⟩
    obtain ⟨i, j, a, b, f⟩ := pigeon n (fun i => (upI up i c).getD 0) (fun i hi => by
      obtain ⟨b, hb⟩ := hs i hi
      rw [hb]
      exact upI_lt hl i c b hc hb)
    obtain ⟨x, hx⟩ := hs i (by omega)
    obtain ⟨y, hy⟩ := hs j b
    rw [hx, hy] at f
    have : x = y := f
    subst this
    have ad := upI_add (up := up) i (j - i) c
    rw [show i + (j - i) = j by omega, hx, hy] at ad
    have := hr x (upI_lt hl i c x hc hx) (j - i - 1) (by omega)
    rw [show j - i - 1 + 1 = j - i by omega] at this
    exact this ad.symm
/-- how high a CLASS stands -/
def hgt (up : Nat → Option Nat) (c : Nat) : Nat := (fnd (fun k => decide (upI up (k + 1) c = none)) 16).getD 0
theorem hgt_of (h16 : n ≤ 16) (h1 : 1 ≤ n) (hl : ∀ c d, c < n → up c = some d → d < n) (hr : noR up n) {c : Nat} (hc : c < n) : ∃ k, k < 16 ∧ hgt up c = k ∧ upI up (k + 1) c = none ∧ ∀ j, j < k → ¬ upI up (j + 1) c = none := by
  unfold hgt
  cases hf : fnd (fun k => decide (upI up (k + 1) c = none)) 16 with
  | none =>
    have := fnd_none.mp hf (n - 1) (by omega)
    rw [show n - 1 + 1 = n by omega, upI_end h16 hl hr hc] at this
    simp at this
  | some k =>
    obtain ⟨a, b, e⟩ := fnd_some.mp hf
    exact ⟨k, a, rfl, by simpa using b, fun j hj => by simpa using e j hj⟩
theorem hgt_lt (h16 : n ≤ 16) (hl : ∀ c d, c < n → up c = some d → d < n) (hr : noR up n) {c e : Nat} (hc : c < n) (hu : up c = some e) : hgt up e < hgt up c := by
  have he := hl c e hc hu
  obtain ⟨k, k1, k2, k3, k4⟩ := hgt_of h16 (by omega) hl hr hc
  obtain ⟨j, j1, j2, j3, j4⟩ := hgt_of h16 (by omega) hl hr he
  rw [k2, j2]
  have sh : ∀ m, upI up (m + 1) c = upI up m e := by
    intro m
    show (match up c with
      | none => none
      | some b => upI up m b) = _
    rw [hu]
  rw [sh] at k3
  cases k with
  | zero => cases k3
  | succ k =>
    by_cases g : j < k + 1
    · exact g
    · exact absurd k3 (j4 k (by omega))
theorem hgt_16 (up : Nat → Option Nat) (c : Nat) : hgt up c < 16 := by
  unfold hgt
  cases hf : fnd (fun k => decide (upI up (k + 1) c = none)) 16 with
  | none => show 0 < 16; omega
  | some k => exact fnd_lt hf
end MJA11b
end
section
/-! ===== what a CLASS is as one above it ===== -/
def chn (nm : Nat → Nat) (ab : Nat → Option Nat) (c : Nat) : Nat → Option Nat
  | 0 => some (own nm c)
  | k + 1 => match chn nm ab c k with
    | none => none
    | some v => match ab (cK v) with
      | none => none
      | some u => some (stand nm u v)
def vwk (nm : Nat → Nat) (ab : Nat → Option Nat) (c a k : Nat) : Option Nat := match fnd (fun k => match chn nm ab c k with
    | some v => decide (cK v = a)
    | none => false) k with
  | none => none
  | some k => chn nm ab c k
def vwT (nm : Nat → Nat) (ab : Nat → Option Nat) (c a : Nat) : Option Nat := vwk nm ab c a 16
/-- no CLASS of the TEXT is above itself -/
def ACY (T : TT) (N : Nat) (L : List CD) : Prop := HN T N L ∧ noR (upT T L) L.length
section MJA12
variable {T : TT} {d N q c t n e k u v : Nat} {s s' : mjSt3} {L : List CD}
theorem vK.own (hn : HN T N L) (hc : c < L.length) : vK L (own (nmL L) c) := ⟨c, fun i => i, hc, rfl, fun i hi => by have := (vK.n5 hn hc).2; show i ≤ 6; omega⟩
theorem vK.stand (hn : HN T N L) (hu : vK L u) (hv : vK L v) : vK L (stand (nmL L) u v) := by
  have h1 := hu.ow hn
  have h2 := hv.ow hn
  have hc := hu.cl hn
  refine ⟨cK u, _, hc, rfl, fun i hi => ?_⟩
  have n5 := (vK.n5 hn hc).2
  have a := h1 i (by omega)
  by_cases g : oK u i < 5
  · rw [if_pos g]; exact h2 _ g
  · rw [if_neg g]; exact a
theorem stand_c (hn : HN T N L) (hu : vK L u) : cK (stand (nmL L) u v) = cK u := mkK_c (vK.n5 hn (hu.cl hn)).2 (fun i _ => st_f)
theorem own_c (hn : HN T N L) (hc : c < L.length) : cK (own (nmL L) c) = c := mkK_c (vK.n5 hn hc).2 (fun i hi => by have := (vK.n5 hn hc).2; show i < 8; omega)
theorem chn_v (hn : HN T N L) (hc : c < L.length) : ∀ (k v : Nat), chn (nmL L) (abT T L) c k = some v → vK L v
  | 0, v, h => by cases h; exact vK.own hn hc
  | k + 1, v, h => by
    unfold chn at h
    cases e : chn (nmL L) (abT T L) c k with
    | none => rw [e] at h; cases h
    | some w =>
      rw [e] at h
      dsimp only at h
      have hw := chn_v hn hc k w e
      cases e2 : abT T L (cK w) with
      | none => rw [e2] at h; cases h
      | some u =>
        rw [e2] at h
        cases h
        exact vK.stand hn (ab_v hn (hw.cl hn) e2) hw
theorem upI_S {up : Nat → Option Nat} (k a : Nat) : upI up (k + 1) a = match upI up k a with
    | none => none
    | some b => up b := by
  rw [upI_add]
  cases upI up k a with
  | none => rfl
  | some b =>
    show upI up 1 b = up b
    unfold upI
    cases up b <;> rfl
theorem chn_c (hn : HN T N L) (hc : c < L.length) : ∀ (k v : Nat), chn (nmL L) (abT T L) c k = some v → upI (upT T L) k c = some (cK v)
  | 0, v, h => by cases h; rw [own_c hn hc]; rfl
  | k + 1, v, h => by
    unfold chn at h
    cases e : chn (nmL L) (abT T L) c k with
    | none => rw [e] at h; cases h
    | some w =>
      rw [e] at h
      dsimp only at h
      have hw := chn_v hn hc k w e
      have ih := chn_c hn hc k w e
      cases e2 : abT T L (cK w) with
      | none => rw [e2] at h; cases h
      | some u =>
        rw [e2] at h
        cases h
        rw [upI_S, ih]
        dsimp only
        unfold upT
        rw [e2, stand_c hn (ab_v hn (hw.cl hn) e2)]
        rfl
theorem chn_ne (A : ACY T N L) (hc : c < L.length) {i j v w : Nat} (hi : chn (nmL L) (abT T L) c i = some v) (hj : chn (nmL L) (abT T L) c j = some w) (h : i < j) (h17 : j ≤ i + 17) : ¬ cK v = cK w := by
  intro x
  have a := chn_c A.1 hc i v hi
  have b := chn_c A.1 hc j w hj
  have ad := upI_add (up := upT T L) i (j - i) c
  rw [show i + (j - i) = j by omega, a, b] at ad
  dsimp only at ad
  have r := A.2 (cK v) ((chn_v A.1 hc i v hi).cl A.1) (j - i - 1) (by omega)
  rw [show j - i - 1 + 1 = j - i by omega] at r
  exact r (by rw [← ad, x])
theorem chn_none (nm : Nat → Nat) (ab : Nat → Option Nat) (h : chn nm ab c k = none) : ∀ m, chn nm ab c (k + m) = none
  | 0 => h
  | m + 1 => by
    show (match chn nm ab c (k + m) with
      | none => none
      | some v => match ab (cK v) with
        | none => none
        | some u => some (stand nm u v)) = none
    rw [chn_none nm ab h m]
theorem vwk_S {a : Nat} (nm : Nat → Nat) (ab : Nat → Option Nat) : vwk nm ab c a (k + 1) = match vwk nm ab c a k with
    | some w => some w
    | none => match chn nm ab c k with
      | some v => if cK v = a then some v else none
      | none => none := by
  unfold vwk
  have e : ∀ p : Nat → Bool, fnd p (k + 1) = match fnd p k with
    | some i => some i
    | none => if p k = true then some k else none := fun _ => rfl
  rw [e]
  cases hf : fnd (fun k => match chn nm ab c k with
    | some v => decide (cK v = a)
    | none => false) k with
  | some i =>
    obtain ⟨_, b, _⟩ := fnd_some.mp hf
    dsimp only at b ⊢
    cases hc : chn nm ab c i with
    | none => rw [hc] at b; cases b
    | some w => rfl
  | none =>
    dsimp only
    cases hc : chn nm ab c k with
    | none => rfl
    | some v =>
      dsimp only
      by_cases g : cK v = a
      · rw [if_pos g, if_pos (by simpa using g)]
        exact hc
      · rw [if_neg g, if_neg (by simpa using g)]
theorem vwk_at {a w : Nat} {nm : Nat → Nat} {ab : Nat → Option Nat} : ∀ {k : Nat}, vwk nm ab c a k = some w → ∃ j, j < k ∧ chn nm ab c j = some w ∧ cK w = a
  | 0, h => by cases h
  | k + 1, h => by
    rw [vwk_S] at h
    cases e : vwk nm ab c a k with
    | some x =>
      rw [e] at h
      cases h
      obtain ⟨j, a, b⟩ := vwk_at e
      exact ⟨j, by omega, b⟩
    | none =>
      rw [e] at h
      dsimp only at h
      cases hc : chn nm ab c k with
      | none => rw [hc] at h; cases h
      | some v =>
        rw [hc] at h
        dsimp only at h
        by_cases g : cK v = a
        · rw [if_pos g] at h; cases h; exact ⟨k, by omega, hc, g⟩
        · rw [if_neg g] at h; cases h
theorem vwk_end {a : Nat} {nm : Nat → Nat} {ab : Nat → Option Nat} (h : chn nm ab c k = none) : ∀ m, vwk nm ab c a (k + m) = vwk nm ab c a k
  | 0 => rfl
  | m + 1 => by
    rw [show k + (m + 1) = (k + m) + 1 by omega, vwk_S, vwk_end h m, chn_none nm ab h m]
    cases vwk nm ab c a k <;> rfl
theorem L110_S (R : mjR) (n a : Nat) (b : Int32) (hp : mjH) : L_110_2 R (n + 1) a b hp = b_110_2 R (L_110_2 R n) a b hp := rfl
theorem L110b_S (R : mjR) (k2 : Nat → Int32 → mjH → mjU) (n a : Nat) (b e f : Int32) (hp : mjH) : L_110_18 R k2 (n + 1) a b e f hp = b_110_18 R k2 (L_110_18 R k2 n) a b e f hp := rfl
theorem lq_110b (A : ACY T N L) (hq : isP q) (k2 : Nat → Int32 → mjH → mjU) (hc : c < L.length) : ∀ (r k m : Nat) (s : mjSt3), k + r = 16 → r < m → pnm q s (nmL L) → ABK T L q s → (∀ a, a < 16 → s.1 (q + 12) (16 * c + a) = oI (vwk (nmL L) (abT T L) c a k)) → ∃ s', L_110_18 (mjF (d + 2)) k2 m q (nI c) (oI (chn (nmL L) (abT T L) c k)) (nI k) (mjW0 s) = k2 q (nI (c + 1)) (mjW0 s') ∧ oRow (q + 12) s s' ∧ (∀ j, ¬ (16 * c ≤ j ∧ j < 16 * c + 16) → s'.1 (q + 12) j = s.1 (q + 12) j) ∧ (∀ a, a < 16 → s'.1 (q + 12) (16 * c + a) = oI (vwT (nmL L) (abT T L) c a)) ∧ s'.1 58 = s.1 58
  | 0, k, m + 1, s, e, _, hn, ha, w => by
    refine ⟨s, ?_, offG.rf, fun _ _ => rfl, fun a ha => ?_, rfl⟩
    · rw [L110b_S]
      unfold b_110_18 b_110_80
      rw [if_pos (show (16 : Int32) ≤ nI k from nI_le (a := 16) (by omega) (by omega)), nI_1]
    · rw [w a ha, show k = 16 by omega]; rfl
  | r + 1, k, m + 1, s, e, hr, hn, ha, w => by
    have h16 := A.1.1
    have hq' : q = 2 ∨ q = 30 := hq
    have pre : L_110_18 (mjF (d + 2)) k2 (m + 1) q (nI c) (oI (chn (nmL L) (abT T L) c k)) (nI k) (mjW0 s) = _ := L110b_S _ _ _ _ _ _ _ _
    unfold b_110_18 b_110_80 b_110_73 at pre
    rw [if_neg (show ¬ (16 : Int32) ≤ nI k from nI_ge (b := 16) (by omega) (by decide))] at pre
    cases hk : chn (nmL L) (abT T L) c k with
    | none =>
      rw [hk, oI_n, if_pos (by decide), nI_1] at pre
      rw [oI_n]
      refine ⟨s, pre, offG.rf, fun _ _ => rfl, fun a ha => ?_, rfl⟩
      have := vwk_end (a := a) hk (r + 1)
      rw [show k + (r + 1) = 16 by omega] at this
      rw [w a ha]
      unfold vwT
      rw [this]
    | some v =>
      have vv := chn_v A.1 hc k v hk
      have vl := vv.lt A.1
      have vc := vv.cl A.1
      rw [hk, oI_s, if_neg (nI_pos (by omega)), x_105 (by omega), bI_s, yg_12 hq, show nI c * (16 : Int32) + nI (cK v) = nI (16 * c + cK v) by rw [show (16 : Int32) = nI 16 from rfl, nI_mul, nI_add, Nat.mul_comm], wys_12 hq (by omega), nI_1] at pre
      obtain ⟨z, hz⟩ : ∃ z, z = uI s (q + 12) (upd (s.1 (q + 12)) (16 * c + cK v) (nI v)) := ⟨_, rfl⟩
      have oz : oRow (q + 12) s z := by rw [hz]; exact oRow.w
      have nz : pnm q z (nmL L) := by unfold pnm; rw [oz.r (by omega) (by omega)]; exact hn
      have az : ABK T L q z := by unfold ABK; rw [oz.r (by omega) (by omega)]; exact ha
      rw [← hz, yg_5 hq, wya_5 hq (by omega), az _ (by omega), if_pos vc] at pre
      have z58 : z.1 58 = s.1 58 := by rw [hz]; exact uI_ne _ _ _ _ (by omega)
      have wz : ∀ a, a < 16 → z.1 (q + 12) (16 * c + a) = oI (vwk (nmL L) (abT T L) c a (k + 1)) := by
        intro a ha
        rw [hz, uI_same, upd_g, vwk_S, hk]
        dsimp only
        by_cases g : cK v = a
        · rw [if_pos (by omega), if_pos g]
          cases hw : vwk (nmL L) (abT T L) c a k with
          | none => rfl
          | some x =>
            obtain ⟨j, j1, j2, j3⟩ := vwk_at hw
            exact absurd (j3.trans g.symm) (chn_ne A hc j2 hk j1 (by omega))
        · rw [if_neg (by omega), if_neg g, w a ha]
          cases vwk (nmL L) (abT T L) c a k <;> rfl
      have nx : chn (nmL L) (abT T L) c (k + 1) = match abT T L (cK v) with
          | none => none
          | some u => some (stand (nmL L) u v) := by
        show (match chn (nmL L) (abT T L) c k with
          | none => none
          | some v => match abT T L (cK v) with
            | none => none
            | some u => some (stand (nmL L) u v)) = _
        rw [hk]
      have fin : L_110_18 (mjF (d + 2)) k2 (m + 1) q (nI c) (nI v) (nI k) (mjW0 s) = L_110_18 (mjF (d + 2)) k2 m q (nI c) (oI (chn (nmL L) (abT T L) c (k + 1))) (nI (k + 1)) (mjW0 z) := by
        rw [pre, nx]
        cases hab : abT T L (cK v) with
        | none => rw [oI_n, if_neg (by decide)]
        | some u =>
          have vu := ab_v A.1 vc hab
          have ul := vu.lt A.1
          rw [oI_s, if_pos (nI_pos' (by omega)), yg_5 hq, wya_5 hq (by omega), az _ (by omega), if_pos vc, hab, oI_s, yV hq, x_stand hq nz (by omega) (by omega) (by have := vu.cl A.1; omega), bI_s]
          rfl
      obtain ⟨s', a1, a2, a3, a4, a5⟩ := lq_110b A hq k2 hc r (k + 1) m z (by omega) (by omega) nz az wz
      refine ⟨s', by rw [oI_s, fin, a1], oz.tr a2, fun j hj => ?_, a4, a5.trans z58⟩
      rw [a3 j hj, hz, uI_same, upd_g, if_neg (by omega)]
theorem lq_110 (A : ACY T N L) (hq : isP q) : ∀ (r c m : Nat) (s : mjSt3), c + r = L.length → r < m → s.1 q 0 = nI L.length → pnm q s (nmL L) → ABK T L q s → (∀ b, b < c → ∀ a, a < 16 → s.1 (q + 12) (16 * b + a) = oI (vwT (nmL L) (abT T L) b a)) → (∀ b, c ≤ b → b < 16 → ∀ a, a < 16 → s.1 (q + 12) (16 * b + a) = -1) → ∃ s', L_110_2 (mjF (d + 2)) m q (nI c) (mjW0 s) = some (none, mjW0 s') ∧ oRow (q + 12) s s' ∧ (∀ b, b < 16 → ∀ a, a < 16 → s'.1 (q + 12) (16 * b + a) = if b < L.length then oI (vwT (nmL L) (abT T L) b a) else -1) ∧ s'.1 58 = s.1 58
  | 0, c, m + 1, s, e, _, h0, hn, ha, w, w' => by
    have h16 := A.1.1
    refine ⟨s, ?_, offG.rf, fun b hb a ha => ?_, rfl⟩
    · rw [L110_S]
      unfold b_110_2
      rw [yg_0 hq, h0, if_pos (nI_le (by omega) (by omega))]
    · by_cases hl : b < L.length
      · rw [if_pos hl]; exact w b (by omega) a ha
      · rw [if_neg hl]; exact w' b (by omega) hb a ha
  | r + 1, c, m + 1, s, e, hr, h0, hn, ha, w, w' => by
    have h16 := A.1.1
    have hq' : q = 2 ∨ q = 30 := hq
    have hc : c < L.length := by omega
    obtain ⟨z, a1, a2, a3, a4, a5⟩ := lq_110b (d := d) A hq (L_110_2 (mjF (d + 2)) m) hc 16 0 mjN s (by omega) (by have := mjN_v; omega) hn ha (fun a ha => by rw [w' c (by omega) (by omega) a ha]; rfl)
    obtain ⟨s', b1, b2', b3, b4⟩ := lq_110 A hq r (c + 1) m z (by omega) (by omega) (by rw [a2.r (by omega) (by omega)]; exact h0) (by unfold pnm; rw [a2.r (by omega) (by omega)]; exact hn) (by unfold ABK; rw [a2.r (by omega) (by omega)]; exact ha) (fun b hb a ha => by
      by_cases eb : b = c
      · rw [eb]; exact a4 a ha
      · rw [a3 _ (by omega)]; exact w b (by omega) a ha) (fun b h1 h2 a ha => by rw [a3 _ (by omega)]; exact w' b (by omega) h2 a ha)
    refine ⟨s', ?_, a2.tr b2', b3, b4.trans a5⟩
    rw [L110_S]
    unfold b_110_2
    rw [yg_0 hq, h0, if_neg (nI_ge (by omega) (by omega)), yV hq, x_ownK hq hn (by omega), bI_s]
    exact a1.trans b1
/-- fillViews -/
theorem x_110 (A : ACY T N L) (hq : isP q) (h0 : s.1 q 0 = nI L.length) (hn : pnm q s (nmL L)) (ha : ABK T L q s) (w : ∀ j, j < 256 → s.1 (q + 12) j = -1) : ∃ s', mjF (d + 3) 110 [.ref q] (mjW0 s) = some (none, mjW0 s') ∧ oRow (q + 12) s s' ∧ (∀ b, b < 16 → ∀ a, a < 16 → s'.1 (q + 12) (16 * b + a) = if b < L.length then oI (vwT (nmL L) (abT T L) b a) else -1) ∧ s'.1 58 = s.1 58 := by
  obtain ⟨s', a1, a2⟩ := lq_110 (d := d) A hq L.length 0 mjN s (by omega) (by have := A.1.1; have := mjN_v; omega) h0 hn ha (fun b hb => absurd hb (by omega)) (fun b _ hb a ha => w _ (by omega))
  refine ⟨s', ?_, a2⟩
  rw [e_110]
  unfold f_110 b_110_0
  exact a1
end MJA12
end
section
/-! ===== how many FIELDS ===== -/
def sumN (f : Nat → Nat) : Nat → Nat
  | 0 => 0
  | n + 1 => sumN f n + f n
theorem sumN_le {f : Nat → Nat} {b : Nat} : ∀ {n : Nat}, (∀ i, i < n → f i ≤ b) → sumN f n ≤ b * n
  | 0, _ => by show 0 ≤ b * 0; omega
  | n + 1, h => by
    have a := sumN_le (n := n) (fun i hi => h i (by omega))
    have c := h n (by omega)
    show sumN f n + f n ≤ b * (n + 1)
    rw [Nat.mul_succ]
    omega
theorem sumN_cg {f g : Nat → Nat} : ∀ {n : Nat}, (∀ i, i < n → f i = g i) → sumN f n = sumN g n
  | 0, _ => rfl
  | n + 1, h => by
    show sumN f n + f n = sumN g n + g n
    rw [sumN_cg (n := n) (fun i hi => h i (by omega)), h n (by omega)]
/-- one more place -/
theorem sumN_add {f g : Nat → Nat} {c x : Nat} : ∀ {n : Nat}, c < n → f c = g c + x → (∀ i, i < n → ¬ i = c → f i = g i) → sumN f n = sumN g n + x
  | 0, h, _, _ => by omega
  | n + 1, h, e, w => by
    show sumN f n + f n = sumN g n + g n + x
    by_cases g' : c = n
    · subst g'
      rw [sumN_cg (fun i hi => w i (by omega) (by omega)), e]
      omega
    · rw [sumN_add (n := n) (by omega) e (fun i hi ne => w i (by omega) ne), w n (by omega) (by omega)]
      omega
/-- FIELDS told in a CLASS -/
def oflL (L : List CD) (a : Nat) : Nat := match L[a]? with
  | some D => cntB false D.2
  | none => 0
/-- FIELDS of a CLASS, those from above too -/
def fldT (T : TT) (L : List CD) (c : Nat) : Nat := sumN (fun a => if (vwT (nmL L) (abT T L) c a).isSome = true then oflL L a else 0) L.length
section MJA13
variable {T : TT} {d N q c t n e k u v : Nat} {s s' : mjSt3} {L : List CD}
/-- the class's views -/
def VWS (T : TT) (L : List CD) (q : Nat) (s : mjSt3) : Prop := ∀ b, b < 16 → ∀ a, a < 16 → s.1 (q + 12) (16 * b + a) = if b < L.length then oI (vwT (nmL L) (abT T L) b a) else -1
theorem vw_v (A : HN T N L) {a w : Nat} (hc : c < L.length) (h : vwT (nmL L) (abT T L) c a = some w) : vK L w ∧ cK w = a := by
  obtain ⟨j, _, j2, j3⟩ := vwk_at h
  exact ⟨chn_v A hc j w j2, j3⟩
theorem vw_nn (A : HN T N L) (V : VWS T L q s) {a : Nat} (hc : c < L.length) (ha : a < L.length) : (0 : Int32) ≤ s.1 (q + 12) (16 * c + a) ↔ (vwT (nmL L) (abT T L) c a).isSome = true := by
  have h16 := A.1
  rw [V c (by omega) a (by omega), if_pos hc]
  cases h : vwT (nmL L) (abT T L) c a with
  | none => decide
  | some w =>
    have := (vw_v A hc h).1.lt A
    exact ⟨fun _ => rfl, fun _ => nI_pos' (by omega)⟩
def fsum (T : TT) (L : List CD) (c k : Nat) : Nat := sumN (fun a => if (vwT (nmL L) (abT T L) c a).isSome = true then oflL L a else 0) k
theorem fsum_le (h24 : ∀ a, oflL L a ≤ 24) (h : k ≤ 16) : fsum T L c k ≤ 384 := by
  have := sumN_le (f := fun a => if (vwT (nmL L) (abT T L) c a).isSome = true then oflL L a else 0) (b := 24) (n := k) (fun i _ => by
    try dsimp only
    by_cases g : (vwT (nmL L) (abT T L) c i).isSome = true
    · rw [if_pos g]; exact h24 i
    · rw [if_neg g]; omega)
  unfold fsum
  omega
theorem L113_S (R : mjR) (n a : Nat) (b : Int32) (hp : mjH) : L_113_2 R (n + 1) a b hp = b_113_2 R (L_113_2 R n) a b hp := rfl
theorem L113b_S (R : mjR) (k2 : Nat → Int32 → mjH → mjU) (n a : Nat) (b e : Int32) (hp : mjH) : L_113_12 R k2 (n + 1) a b e hp = b_113_12 R k2 (L_113_12 R k2 n) a b e hp := rfl
theorem L113c_S (R : mjR) (n a : Nat) (b : Int32) (hp : mjH) : L_113_62 R (n + 1) a b hp = b_113_62 R (L_113_62 R n) a b hp := rfl
theorem lq_113b (A : HN T N L) (hq : isP q) (k2 : Nat → Int32 → mjH → mjU) (hc : c < L.length) (h24 : ∀ a, oflL L a ≤ 24) : ∀ (r a m : Nat) (s : mjSt3), a + r = L.length → r < m → s.1 q 0 = nI L.length → VWS T L q s → (∀ a, a < L.length → s.1 (q + 7) a = nI (oflL L a)) → s.1 (q + 8) c = nI (fsum T L c a) → ∃ s', L_113_12 (mjF (d + 1)) k2 m q (nI c) (nI a) (mjW0 s) = k2 q (nI (c + 1)) (mjW0 s') ∧ oRow (q + 8) s s' ∧ (∀ j, ¬ j = c → s'.1 (q + 8) j = s.1 (q + 8) j) ∧ s'.1 (q + 8) c = nI (fldT T L c) ∧ s'.1 58 = s.1 58
  | 0, a, m + 1, s, e, _, h0, V, O, w => by
    have h16 := A.1
    refine ⟨s, ?_, offG.rf, fun _ _ => rfl, ?_, rfl⟩
    · rw [L113b_S]
      unfold b_113_12
      rw [yg_0 hq, h0, if_pos (nI_le (by omega) (by omega)), nI_1]
    · rw [w, show a = L.length by omega]; rfl
  | r + 1, a, m + 1, s, e, hr, h0, V, O, w => by
    have h16 := A.1
    have hq' : q = 2 ∨ q = 30 := hq
    have ha : a < L.length := by omega
    obtain ⟨z, hz⟩ : ∃ z, z = uI s (q + 8) (upd (s.1 (q + 8)) c (nI (fsum T L c (a + 1)))) := ⟨_, rfl⟩
    have oz : oRow (q + 8) s z := by rw [hz]; exact oRow.w
    have z58 : z.1 58 = s.1 58 := by rw [hz]; exact uI_ne _ _ _ _ (by omega)
    obtain ⟨s', a1, a2, a3, a4, a5⟩ := lq_113b A hq k2 hc h24 r (a + 1) m z (by omega) (by omega) (by rw [oz.r (by omega) (by omega)]; exact h0) (by unfold VWS; rw [oz.r (by omega) (by omega)]; exact V) (by rw [oz.r (by omega) (by omega)]; exact O) (by rw [hz, uI_same, upd_g, if_pos rfl])
    refine ⟨s', ?_, oz.tr a2, fun j hj => by rw [a3 j hj, hz, uI_same, upd_g, if_neg hj], a4, a5.trans z58⟩
    rw [← a1, L113b_S]
    unfold b_113_12 b_113_46
    have es : fsum T L c (a + 1) = fsum T L c a + (if (vwT (nmL L) (abT T L) c a).isSome = true then oflL L a else 0) := rfl
    have vn := vw_nn A V hc ha
    rw [yg_0 hq, h0, if_neg (nI_ge (by omega) (by omega)), yg_8 hq, wya_8 hq (by omega), w, yV hq, x_view hq (by omega) (by omega), bI_s]
    by_cases g : (vwT (nmL L) (abT T L) c a).isSome = true
    · rw [if_pos (vn.mpr g), yg_7 hq, wya_7 hq (by omega), O a ha, wys_8 hq (by omega), nI_add, nI_1, hz, es, if_pos g]
    · rw [if_neg (fun x => g (vn.mp x)), wys_8 hq (by omega), show nI (fsum T L c a) + (0 : Int32) = nI (fsum T L c a + 0) from nI_add _ 0, nI_1, hz, es, if_neg g]
/-- the rows that fillFields reads of the MEMBERS -/
def FMr (q : Nat) (s : mjSt3) (M : Nat) (hm : Nat → Nat) (mS : Nat → Bool) : Prop := s.1 (q + 14) 0 = nI M ∧ M ≤ 384 ∧ ∀ m, m < M → s.1 (q + 16) m = nI (hm m) ∧ hm m < 16 ∧ s.1 (q + 18) m = b2 (mS m)
theorem lq_113c (hq : isP q) {M : Nat} {hm : Nat → Nat} {mS : Nat → Bool} {fl of nu : Nat → Nat} (h7 : ∀ c, c < 16 → of c ≤ fl c ∧ fl c ≤ 384) : ∀ (r i m : Nat) (s : mjSt3), i + r = M → r < m → FMr q s M hm mS → (∀ c, c < 16 → s.1 (q + 8) c = nI (fl c) ∧ s.1 (q + 7) c = nI (of c)) → (∀ j, j < i → s.1 (q + 19) j = nI (if mS j = true then nu j else nu j + (fl (hm j) - of (hm j)))) → (∀ j, i ≤ j → j < M → s.1 (q + 19) j = nI (nu j)) → ∃ s', L_113_62 (mjF (d + 1)) m q (nI i) (mjW0 s) = some (none, mjW0 s') ∧ oRow (q + 19) s s' ∧ (∀ j, j < M → s'.1 (q + 19) j = nI (if mS j = true then nu j else nu j + (fl (hm j) - of (hm j)))) ∧ s'.1 58 = s.1 58
  | 0, i, m + 1, s, e, _, F, G, w, w' => by
    refine ⟨s, ?_, offG.rf, fun j hj => w j (by omega), rfl⟩
    rw [L113c_S]
    unfold b_113_62
    rw [yg_14 hq, ymg_0 hq, F.1, if_pos (nI_le (by omega) (by have := F.2.1; omega))]
  | r + 1, i, m + 1, s, e, hr, F, G, w, w' => by
    have hq' : q = 2 ∨ q = 30 := hq
    obtain ⟨f1, f2, f3⟩ := F
    obtain ⟨k1, k2, k3⟩ := f3 i (by omega)
    obtain ⟨z, hz⟩ : ∃ z, z = uI s (q + 19) (upd (s.1 (q + 19)) i (nI (if mS i = true then nu i else nu i + (fl (hm i) - of (hm i))))) := ⟨_, rfl⟩
    have oz : oRow (q + 19) s z := by rw [hz]; exact oRow.w
    have z58 : z.1 58 = s.1 58 := by rw [hz]; exact uI_ne _ _ _ _ (by omega)
    obtain ⟨s', a1, a2, a3, a4⟩ := lq_113c hq h7 r (i + 1) m z (by omega) (by omega) ⟨by rw [oz.r (by omega) (by omega)]; exact f1, f2, fun m hm => by rw [oz.r (by omega) (by omega), oz.r (by omega) (by omega)]; exact f3 m hm⟩ (fun c hc => by rw [oz.r (by omega) (by omega), oz.r (by omega) (by omega)]; exact G c hc) (fun j hj => by
      rw [hz, uI_same, upd_g]
      by_cases ej : j = i
      · rw [if_pos ej, ej]
      · rw [if_neg ej]; exact w j (by omega)) (fun j h1 h2 => by rw [hz, uI_same, upd_g, if_neg (by omega)]; exact w' j (by omega) h2)
    refine ⟨s', ?_, oz.tr a2, a3, a4.trans z58⟩
    rw [← a1, L113c_S]
    unfold b_113_62 b_113_122
    rw [yg_14 hq, ymg_0 hq, f1, if_neg (nI_ge (by omega) (by omega)), yg_14 hq, ymg_2 hq, wya_16 hq (by omega), k1, yg_14 hq, ymg_5 hq, wya_19 hq (by omega), w' i (by omega) (by omega), yg_14 hq, ymg_4 hq, wya_18 hq (by omega), k3, b2_i]
    cases hs : mS i with
    | true =>
      rw [if_pos rfl, wys_19 hq (by omega), show nI (nu i) + (0 : Int32) = nI (nu i + 0) from nI_add _ 0, nI_1, hz, hs, if_pos rfl]
      rfl
    | false =>
      rw [if_neg (by decide), yg_8 hq, wya_8 hq k2, (G _ k2).1, yg_7 hq, wya_7 hq k2, (G _ k2).2, pk_sub (h7 _ k2).1, wys_19 hq (by omega), nI_add, nI_1, hz, hs, if_neg (by decide)]
theorem lq_113 (A : HN T N L) (hq : isP q) (h24 : ∀ a, oflL L a ≤ 24) {M : Nat} {hm : Nat → Nat} {mS : Nat → Bool} {nu : Nat → Nat} (hof : ∀ c, oflL L c ≤ fldT T L c) : ∀ (r c m : Nat) (s : mjSt3), c + r = L.length → r < m → s.1 q 0 = nI L.length → VWS T L q s → FMr q s M hm mS → (∀ m, m < M → hm m < L.length) → (∀ a, a < 16 → s.1 (q + 7) a = nI (oflL L a)) → (∀ j, j < c → s.1 (q + 8) j = nI (fldT T L j)) → (∀ j, c ≤ j → j < 16 → s.1 (q + 8) j = 0) → (∀ j, j < M → s.1 (q + 19) j = nI (nu j)) → ∃ s', L_113_2 (mjF (d + 1)) m q (nI c) (mjW0 s) = some (none, mjW0 s') ∧ oJ q s s' ∧ (∀ h, ¬ h = q + 8 → ¬ h = q + 19 → s'.1 h = s.1 h) ∧ s'.2 = s.2 ∧ (∀ j, j < L.length → s'.1 (q + 8) j = nI (fldT T L j)) ∧ (∀ j, j < M → s'.1 (q + 19) j = nI (if mS j = true then nu j else nu j + (fldT T L (hm j) - oflL L (hm j))))
  | 0, c, m + 1, s, e, _, h0, V, F, hl, O, w, w', wn => by
    have h16 := A.1
    have hq' : q = 2 ∨ q = 30 := hq
    have out : ∀ c, L.length ≤ c → oflL L c = 0 := fun c hc => by unfold oflL; rw [List.getElem?_eq_none hc]
    obtain ⟨s', a1, a2, a3, a4⟩ := lq_113c (d := d) (q := q) (M := M) (hm := hm) (mS := mS) (fl := fun c => if c < L.length then fldT T L c else 0) (of := oflL L) (nu := nu) hq (fun c hc => by
      try dsimp only
      by_cases g : c < L.length
      · rw [if_pos g]; exact ⟨hof c, fsum_le h24 h16⟩
      · rw [if_neg g, out c (by omega)]; omega) M 0 mjN s (by omega) (by have := F.2.1; have := mjN_v; omega) F (fun c hc => by
      refine ⟨?_, O c hc⟩
      try dsimp only
      by_cases g : c < L.length
      · rw [if_pos g]; exact w c (by omega)
      · rw [if_neg g]; exact w' c (by omega) hc) (fun j hj => absurd hj (by omega)) (fun j _ hj => wn j hj)
    refine ⟨s', ?_, a2.J (by omega), fun h h1 h2 => ?_, a2.l, fun j hj => ?_, fun j hj => ?_⟩
    · rw [L113_S]
      unfold b_113_2
      rw [yg_0 hq, h0, if_pos (nI_le (by omega) (by omega))]
      exact a1
    · by_cases g : h = 58
      · rw [g]; exact a4
      · exact a2.r g h2
    · rw [a2.r (by omega) (by omega)]; exact w j (by omega)
    · rw [a3 j hj]
      try dsimp only
      rw [if_pos (hl j hj)]
  | r + 1, c, m + 1, s, e, hr, h0, V, F, hl, O, w, w', wn => by
    have h16 := A.1
    have hq' : q = 2 ∨ q = 30 := hq
    have hc : c < L.length := by omega
    obtain ⟨z, a1, a2, a3, a4, a5⟩ := lq_113b (d := d) A hq (L_113_2 (mjF (d + 1)) m) hc h24 L.length 0 mjN s (by omega) (by have := mjN_v; omega) h0 V (fun a ha => O a (by omega)) (by rw [w' c (by omega) (by omega)]; rfl)
    obtain ⟨f1, f2, f3⟩ := F
    obtain ⟨s', b1, b2', b3, b4, b5, b6⟩ := lq_113 A hq h24 hof r (c + 1) m z (by omega) (by omega) (by rw [a2.r (by omega) (by omega)]; exact h0) (by unfold VWS; rw [a2.r (by omega) (by omega)]; exact V) ⟨by rw [a2.r (by omega) (by omega)]; exact f1, f2, fun m hm => by rw [a2.r (by omega) (by omega), a2.r (by omega) (by omega)]; exact f3 m hm⟩ hl (by rw [a2.r (by omega) (by omega)]; exact O) (fun j hj => by
      by_cases ej : j = c
      · rw [ej]; exact a4
      · rw [a3 j ej]; exact w j (by omega)) (fun j h1 h2 => by rw [a3 j (by omega)]; exact w' j (by omega) h2) (by rw [a2.r (by omega) (by omega)]; exact wn)
    refine ⟨s', ?_, (a2.J (by omega)).tr b2', fun h h1 h2 => ?_, b4.trans a2.l, b5, b6⟩
    · rw [L113_S]
      unfold b_113_2
      rw [yg_0 hq, h0, if_neg (nI_ge (by omega) (by omega))]
      exact a1.trans b1
    · rw [b3 h h1 h2]
      by_cases g : h = 58
      · rw [g]; exact a5
      · exact a2.r g h1
end MJA13
end
