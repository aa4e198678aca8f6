/-! ===== the class's arithmetic of KINDS ===== -/
def b2 (b : Bool) : Int32 := if b = true then 1 else 0
theorem b2_nar (b : Bool) : narrow .boolean (.int (b2 b)) = .int (b2 b) := by cases b <;> decide
theorem b2_z {b : Bool} : b2 b = 0 ↔ b = false := by cases b <;> decide
theorem b2_i {b : Bool} {α : Type} (x y : α) : (if b2 b = 0 then x else y) = if b = true then y else x := by cases b <;> rfl
theorem nI_or (a b : Nat) : nI a ||| nI b = nI (a ||| b) := by
  apply Int32.toBitVec_inj.mp
  simp [nI, BitVec.ofNat_or]
theorem nI_mul (a b : Nat) : nI a * nI b = nI (a * b) := (Int32.ofNat_mul a b).symm
theorem or_add {i k o c : Nat} (hi : i ≤ 4) (hk : k < 8 ^ i) (ho : o < 8) : (c * 32768 + k) ||| (o * 8 ^ i) = c * 32768 + (k + o * 8 ^ i) := by
  have e : 8 ^ i = 2 ^ (3 * i) := by rw [Nat.pow_mul]
  have l5 : 2 ^ (3 * i) * o + k < 2 ^ 15 := by
    have a : 2 ^ (3 * i) * o ≤ 2 ^ (3 * i) * 7 := Nat.mul_le_mul_left _ (by omega)
    have b : 2 ^ (3 * i) * 8 ≤ 2 ^ 15 := by
      rw [show (8 : Nat) = 2 ^ 3 from rfl, ← Nat.pow_add]
      exact Nat.pow_le_pow_right (by omega) (by omega)
    rw [e] at hk
    omega
  rw [e] at hk ⊢
  have h1 : c * 32768 + k = 2 ^ 15 * c ||| k := by
    rw [← Nat.two_pow_add_eq_or_of_lt (i := 15) (b := k) (by omega) c]
    omega
  have h2 : 2 ^ (3 * i) * o ||| k = 2 ^ (3 * i) * o + k := (Nat.two_pow_add_eq_or_of_lt hk o).symm
  rw [h1, Nat.mul_comm o, Nat.or_assoc, Nat.or_comm k, h2, ← Nat.two_pow_add_eq_or_of_lt l5 c]
  omega
section MJA3
variable {d c i k o n : Nat} {hp : mjH} {f : Nat → Nat}
theorem x_105 (h : k < 2 ^ 31) : mjF (d + 1) 105 [.int (nI k)] hp = some (some (.int (nI (cK k))), hp) := by
  rw [e_105]
  unfold f_105 b_105_0
  rw [pk_shrN h _ 15 (by decide)]
  rfl
theorem x_102 (h : c < 16) : mjF (d + 1) 102 [.int (nI c)] hp = some (some (.int (nI (mkK c 0 f))), hp) := by
  rw [e_102]
  unfold f_102 b_102_0
  rw [pk_shlN _ 15 (by decide) (by omega), show mkK c 0 f = c * 2 ^ 15 by unfold mkK mkS; omega]
theorem x_106 (h : k < 2 ^ 31) (hi : i ≤ 4) : mjF (d + 1) 106 [.int (nI k), .int (nI i)] hp = some (some (.int (nI (oK k i))), hp) := by
  rw [e_106]
  unfold f_106 b_106_0
  have g : ∀ j, (h3 : ((((3 : Int32) * nI i) &&& 31).toBitVec.smod 32).toNat = j) → 2 ^ j = 8 ^ i → ((nI k >>> (((3 : Int32) * nI i) &&& 31)) &&& (7 : Int32)) = nI (oK k i) := by
    intro j h3 h8
    rw [pk_shrN h _ j h3, pk_andN (Nat.lt_of_le_of_lt (Nat.div_le_self _ _) (by omega)) 3 (by decide), h8]
    rfl
  match i, hi, g with
  | 0, _, g => rw [g 0 (by decide) (by decide)]
  | 1, _, g => rw [g 3 (by decide) (by decide)]
  | 2, _, g => rw [g 6 (by decide) (by decide)]
  | 3, _, g => rw [g 9 (by decide) (by decide)]
  | 4, _, g => rw [g 12 (by decide) (by decide)]
theorem x_103 (hi : i ≤ 4) (hf : ∀ j, j < i + 1 → f j < 8) (hc : c < 16) : mjF (d + 1) 103 [.int (nI (mkK c i f)), .int (nI i), .int (nI (f i))] hp = some (some (.int (nI (mkK c (i + 1) f))), hp) := by
  rw [e_103]
  unfold f_103 b_103_0
  have ho := hf i (by omega)
  have hk : mkS f i < 8 ^ i := mkS_lt (fun j hj => hf j (by omega))
  have g : ∀ j, (h3 : ((((3 : Int32) * nI i) &&& 31).toBitVec.smod 32).toNat = j) → 2 ^ j = 8 ^ i → nI (mkK c i f) ||| (nI (f i) <<< (((3 : Int32) * nI i) &&& 31)) = nI (mkK c (i + 1) f) := by
    intro j h3 h8
    have l : f i * 2 ^ j < 2 ^ 32 := by
      have a : 8 ^ i ≤ 8 ^ 4 := Nat.pow_le_pow_right (by omega) hi
      have b : f i * 2 ^ j ≤ 7 * 8 ^ 4 := Nat.mul_le_mul (by omega) (by rw [h8]; exact a)
      omega
    rw [pk_shlN _ j h3 l, nI_or, h8]
    unfold mkK
    rw [or_add hi hk ho]
    rfl
  match i, hi, g with
  | 0, _, g => rw [g 0 (by decide) (by decide)]
  | 1, _, g => rw [g 3 (by decide) (by decide)]
  | 2, _, g => rw [g 6 (by decide) (by decide)]
  | 3, _, g => rw [g 9 (by decide) (by decide)]
  | 4, _, g => rw [g 12 (by decide) (by decide)]
end MJA3
/-- how many NAMES each CLASS has -/
def pnm (q : Nat) (s : mjSt3) (nm : Nat → Nat) : Prop := ∀ c, c < 16 → s.1 (q + 1) c = nI (nm c) ∧ nm c ≤ 5
def own (nm : Nat → Nat) (c : Nat) : Nat := mkK c (nm c) (fun i => i)
def stand (nm : Nat → Nat) (k v : Nat) : Nat := mkK (cK k) (nm (cK k)) (fun i => if oK k i < 5 then oK v (oK k i) else oK k i)
def hTs (k : Nat) : Nat → Bool
  | 0 => false
  | n + 1 => hTs k n || decide (oK k n = 6)
/-- a TYPE that has this -/
def hasT (t : Nat) : Bool := match t with
  | k + 2 => hTs k 5
  | _ => false
theorem st_f {k v i : Nat} : (if oK k i < 5 then oK v (oK k i) else oK k i) < 8 := by
  by_cases h : oK k i < 5
  · rw [if_pos h]; exact oK_lt _ _
  · rw [if_neg h]; exact oK_lt _ _
section MJA3b
variable {d q c i k o n v : Nat} {s : mjSt3} {nm : Nat → Nat} {hp : mjH}
theorem L111_S (R : mjR) (n a : Nat) (b e f : Int32) (hp : mjH) : L_111_7 R (n + 1) a b e f hp = b_111_7 R (L_111_7 R n) a b e f hp := rfl
theorem lq_111 (hq : isP q) (hn : pnm q s nm) (hc : c < 16) : ∀ (k i n : Nat), i + k = nm c → k < n → L_111_7 (mjF (d + 1)) n q (nI c) (nI (mkK c i (fun j => j))) (nI i) (mjW0 s) = some (some (.int (nI (own nm c))), mjW0 s)
  | 0, i, n + 1, h, _ => by
    have h5 := (hn c hc).2
    rw [L111_S]
    unfold b_111_7
    rw [yg_1 hq, wya_1 hq hc, (hn c hc).1, if_pos (nI_le (by omega) (by omega)), show i = nm c by omega]
    rfl
  | k + 1, i, n + 1, h, hk => by
    have h5 := (hn c hc).2
    rw [L111_S]
    unfold b_111_7
    rw [yg_1 hq, wya_1 hq hc, (hn c hc).1, if_neg (nI_ge (by omega) (by omega))]
    have e := x_103 (d := d) (c := c) (i := i) (f := fun j => j) (hp := mjW0 s) (by omega) (fun j hj => by show j < 8; omega) hc
    rw [e, bI_s, nI_1]
    exact lq_111 hq hn hc k (i + 1) n (by omega) (by omega)
theorem x_ownK (hq : isP q) (hn : pnm q s nm) (hc : c < 16) : mjF (d + 2) 111 [.ref q, .int (nI c)] (mjW0 s) = some (some (.int (nI (own nm c))), mjW0 s) := by
  rw [e_111]
  unfold f_111 b_111_0
  rw [x_102 (f := fun j => j) hc, bI_s]
  exact lq_111 hq hn hc (nm c) 0 mjN (by omega) (by have := (hn c hc).2; have := mjN_v; omega)
theorem L112_S (R : mjR) (n a : Nat) (b e f g i : Int32) (hp : mjH) : L_112_24 R (n + 1) a b e f g i hp = b_112_24 R (L_112_24 R n) a b e f g i hp := rfl
theorem lq_112 (hq : isP q) (hn : pnm q s nm) (hk0 : k < 2 ^ 31) (hv : v < 2 ^ 31) (hc : cK k < 16) : ∀ (r i n : Nat), i + r = nm (cK k) → r < n → L_112_24 (mjF (d + 1)) n q (nI k) (nI v) (nI (cK k)) (nI (mkK (cK k) i (fun i => if oK k i < 5 then oK v (oK k i) else oK k i))) (nI i) (mjW0 s) = some (some (.int (nI (stand nm k v))), mjW0 s)
  | 0, i, n + 1, h, _ => by
    have h5 := (hn _ hc).2
    rw [L112_S]
    unfold b_112_24
    rw [yg_1 hq, wya_1 hq hc, (hn _ hc).1, if_pos (nI_le (by omega) (by omega)), show i = nm (cK k) by omega]
    rfl
  | r + 1, i, n + 1, h, hr => by
    have h5 := (hn _ hc).2
    have o8 := oK_lt k i
    rw [L112_S]
    unfold b_112_24
    rw [yg_1 hq, wya_1 hq hc, (hn _ hc).1, if_neg (nI_ge (by omega) (by omega)), x_106 hk0 (by omega), bI_s]
    have e := x_103 (d := d) (c := cK k) (i := i) (f := fun i => if oK k i < 5 then oK v (oK k i) else oK k i) (hp := mjW0 s) (by omega) (fun j hj => st_f) hc
    by_cases g : oK k i < 5
    · rw [if_neg (show ¬ (5 : Int32) ≤ nI (oK k i) from nI_ge (b := 5) g (by decide)), x_106 hv (by omega), bI_s]
      unfold b_112_64
      simp only [if_pos g] at e
      rw [e, bI_s, nI_1]
      exact lq_112 hq hn hk0 hv hc r (i + 1) n (by omega) (by omega)
    · rw [if_pos (show (5 : Int32) ≤ nI (oK k i) from nI_le (a := 5) (by omega) (by omega))]
      unfold b_112_64
      simp only [if_neg g] at e
      rw [e, bI_s, nI_1]
      exact lq_112 hq hn hk0 hv hc r (i + 1) n (by omega) (by omega)
theorem x_stand (hq : isP q) (hn : pnm q s nm) (hk : k < 2 ^ 31) (hv : v < 2 ^ 31) (hc : cK k < 16) : mjF (d + 2) 112 [.ref q, .int (nI k), .int (nI v)] (mjW0 s) = some (some (.int (nI (stand nm k v))), mjW0 s) := by
  rw [e_112]
  unfold f_112 b_112_0
  rw [if_neg (nI_pos hk), if_pos (nI_pos' hv), x_105 hk, bI_s, x_102 (f := fun i => if oK k i < 5 then oK v (oK k i) else oK k i) hc, bI_s]
  exact lq_112 hq hn hk hv hc (nm (cK k)) 0 mjN (by omega) (by have := (hn _ hc).2; have := mjN_v; omega)
theorem x_standN {a b : Int32} (h : a < 0) : mjF (d + 1) 112 [.ref q, .int a, .int b] hp = some (some (.int a), hp) := by
  rw [e_112]
  unfold f_112 b_112_0 b_112_8
  rw [if_pos h]
theorem L122_S (R : mjR) (n : Nat) (b e f : Int32) (hp : mjH) : L_122_4 R (n + 1) b e f hp = b_122_4 R (L_122_4 R n) b e f hp := rfl
theorem lq_122 (hk : k < 2 ^ 31) : ∀ (r i n : Nat), i + r = 5 → r < n → L_122_4 (mjF (d + 1)) n (nI k) (b2 (hTs k i)) (nI i) hp = some (some (.int (b2 (hTs k 5))), hp)
  | 0, i, n + 1, h, _ => by
    rw [L122_S, show i = 5 by omega]
    unfold b_122_4 b_122_39
    rw [if_pos (show (5 : Int32) ≤ nI 5 by decide), if_pos (b2_nar _)]
  | r + 1, i, n + 1, h, hr => by
    have ih := lq_122 hk r (i + 1) n (by omega) (by omega)
    have e : hTs k (i + 1) = (hTs k i || decide (oK k i = 6)) := rfl
    rw [L122_S]
    unfold b_122_4 b_122_27 b_122_32
    rw [if_neg (show ¬ (5 : Int32) ≤ nI i from nI_ge (b := 5) (by omega) (by decide)), if_neg (nI_pos hk), nI_1, b2_i]
    cases hh : hTs k i with
    | true =>
      rw [if_pos rfl]
      rw [e, hh] at ih
      exact ih
    | false =>
      rw [if_neg (by decide), x_106 hk (by omega), bI_s]
      rw [e, hh] at ih
      have o8 := oK_lt k i
      by_cases g : oK k i = 6
      · rw [if_pos (show nI (oK k i) = (6 : Int32) by rw [g]; rfl)]
        simp only [g] at ih
        exact ih
      · rw [if_neg (show ¬ nI (oK k i) = (6 : Int32) from fun e => g ((nI_eq (b := 6) (by omega) (by decide)).mp e))]
        simp only [g] at ih
        exact ih
theorem x_hasT {t : Nat} (ht : t < 524290) : mjF (d + 2) 122 [.int (tyI t)] hp = some (some (.int (b2 (hasT t))), hp) := by
  rw [e_122]
  unfold f_122 b_122_0
  by_cases g : t < 2
  · have hneg := (tyI_neg ht).mpr g
    have e : hasT t = false := by
      match t, g with
      | 0, _ => rfl
      | 1, _ => rfl
    rw [show mjN = 99999999 + 1 from rfl, L122_S, e]
    unfold b_122_4 b_122_39
    rw [if_neg (by decide), if_pos hneg, if_pos (by decide)]
    rfl
  · obtain ⟨k, rfl⟩ : ∃ k, t = k + 2 := ⟨t - 2, by omega⟩
    exact lq_122 (k := k) (by omega) 5 0 mjN (by omega) (by have := mjN_v; omega)
theorem x_view {a : Nat} (hq : isP q) (hc : c < 16) (ha : a < 16) : mjF (d + 1) 114 [.ref q, .int (nI c), .int (nI a)] (mjW0 s) = some (some (.int (s.1 (q + 12) (16 * c + a))), mjW0 s) := by
  rw [e_114]
  unfold f_114 b_114_0
  rw [yg_12 hq, show nI c * (16 : Int32) + nI a = nI (16 * c + a) by rw [show (16 : Int32) = nI 16 from rfl, nI_mul, nI_add, Nat.mul_comm], wya_12 hq (by omega)]
theorem x_above (hq : isP q) (hc : c < 16) {o : Option Nat} (h : s.1 (q + 5) c = oI o) (ho : ∀ k, o = some k → k < 2 ^ 31) : mjF (d + 2) 108 [.ref q, .int (nI c)] (mjW0 s) = some (some (.int (oI (o.map cK))), mjW0 s) := by
  rw [e_108]
  unfold f_108 b_108_0
  rw [yg_5 hq, wya_5 hq hc, h]
  cases o with
  | none => rw [if_neg (show ¬ (0 : Int32) ≤ oI none by decide)]; rfl
  | some k =>
    rw [oI_s, if_pos (nI_pos' (ho k rfl)), yg_5 hq, wya_5 hq hc, h, oI_s, x_105 (ho k rfl), bI_s]
    rfl
end MJA3b
