/-! ===== kindHere: the KIND at the cursor ===== -/
def nmL (L : List CD) (c : Nat) : Nat := (hC L c).2.1
def allB (g : Nat → Bool) : Nat → Bool
  | 0 => true
  | n + 1 => allB g n && g n
theorem allB_iff {g : Nat → Bool} : ∀ {n : Nat}, allB g n = true ↔ ∀ i, i < n → g i = true
  | 0 => ⟨fun _ i h => absurd h (by omega), fun _ => rfl⟩
  | n + 1 => by
    unfold allB
    rw [Bool.and_eq_true, allB_iff]
    constructor
    · intro ⟨a, b⟩ i hi
      by_cases e : i = n
      · rw [e]; exact b
      · exact a i (by omega)
    · intro h
      exact ⟨fun i hi => h i (by omega), h n (by omega)⟩
/-- an OWNER is known to be IN another one (none: in main) -/
def knB (kn : Nat → Nat → Nat → Bool) (c : Option Nat) (a b : Nat) : Bool := match c with
  | none => decide (a = 5) && decide (b = 5)
  | some c => kn c a b
/-- a KIND is NESTED; ip: the INS of a CLASS -/
def nst (nm iN : Nat → Nat) (ip : Nat → Nat → Nat × Nat) (kn : Nat → Nat → Nat → Bool) (c : Option Nat) (k : Nat) : Bool :=
  allB (fun i => decide (i = 0) || knB kn c (oK k 0) (oK k i)) (nm (cK k)) && allB (fun i => knB kn c (oK k (ip (cK k) i).1) (oK k (ip (cK k) i).2)) (iN (cK k))
/-- the class's rows of what is known -/
def KNW (q : Nat) (s : mjSt3) (kn : Nat → Nat → Nat → Bool) : Prop := ∀ c, c < 16 → ∀ a, a < 7 → ∃ w, w < 128 ∧ s.1 (q + 11) (7 * c + a) = nI w ∧ ∀ b, b < 7 → w.testBit b = kn c a b
/-- the class's rows of INS -/
def INP (q : Nat) (s : mjSt3) (iN : Nat → Nat) (ip : Nat → Nat → Nat × Nat) : Prop := ∀ c, c < 16 → s.1 (q + 3) c = nI (iN c) ∧ iN c ≤ 8 ∧ ∀ i, i < iN c → s.1 (q + 4) (8 * c + i) = nI (7 * (ip c i).1 + (ip c i).2) ∧ (ip c i).1 ≤ 4 ∧ (ip c i).2 ≤ 4
theorem sh_l : ∀ n, n < 32 → ((nI n &&& 31).toBitVec.smod 32).toNat = n := by decide
theorem dv7 : ∀ a, a < 5 → ∀ b, b < 5 → nI (7 * a + b) / 7 = nI a ∧ nI (7 * a + b) - nI (7 * a + b) / 7 * 7 = nI b := by decide
section MJA5
variable {T : TT} {d N q c t n e k : Nat} {s s' : mjSt3} {L : List CD} {h : Option Nat} {nm iN : Nat → Nat} {ip : Nat → Nat → Nat × Nat} {kn : Nat → Nat → Nat → Bool}
theorem x_known (hq : isP q) (hk : KNW q s kn) (hc : ∀ c, h = some c → c < 16) {a b : Nat} (ha : a < 7) (hb : b < 7) : mjF (d + 1) 107 [.ref q, .int (oI h), .int (nI a), .int (nI b)] (mjW0 s) = some (some (.int (b2 (knB kn h a b))), mjW0 s) := by
  rw [e_107]
  unfold f_107 b_107_0 b_107_19
  cases h with
  | none =>
    rw [if_pos (show oI none = -1 from rfl)]
    have ea : nI a = (5 : Int32) ↔ a = 5 := nI_eq (b := 5) (by omega) (by decide)
    have eb : nI b = (5 : Int32) ↔ b = 5 := nI_eq (b := 5) (by omega) (by decide)
    by_cases g : a = 5
    · rw [if_pos (ea.mpr g)]
      by_cases g2 : b = 5
      · rw [if_pos (eb.mpr g2)]
        simp [knB, g, g2, b2]
      · rw [if_neg (fun x => g2 (eb.mp x))]
        simp [knB, g2, b2]
    · rw [if_neg (fun x => g (ea.mp x))]
      simp [knB, g, b2]
  | some c =>
    have h16 := hc c rfl
    obtain ⟨w, w1, w2, w3⟩ := hk c h16 a ha
    rw [oI_s, if_neg (nI_m1 (by omega)), yg_11 hq, show nI c * (7 : Int32) + nI a = nI (7 * c + a) by rw [show (7 : Int32) = nI 7 from rfl, nI_mul, nI_add, Nat.mul_comm], wya_11 hq (by omega), w2, pk_shrN (by omega) _ b (sh_l b (by omega)), pk_andN (Nat.lt_of_le_of_lt (Nat.div_le_self _ _) (by omega)) 1 (by decide)]
    have tb : w.testBit b = decide (w / 2 ^ b % 2 = 1) := Nat.testBit_eq_decide_div_mod_eq
    rw [w3 b hb] at tb
    show (if nI (w / 2 ^ b % 2 ^ 1) = 0 then _ else _) = some (some (Value.int (b2 (kn c a b))), mjW0 s)
    rw [tb]
    have m2 : w / 2 ^ b % 2 < 2 := Nat.mod_lt _ (by omega)
    by_cases g : w / 2 ^ b % 2 = 1
    · rw [if_neg (show ¬ nI (w / 2 ^ b % 2 ^ 1) = 0 by rw [show w / 2 ^ b % 2 ^ 1 = 1 from g]; decide)]
      simp [g, b2]
    · rw [if_pos (show nI (w / 2 ^ b % 2 ^ 1) = 0 by rw [show w / 2 ^ b % 2 ^ 1 = 0 from (by show w / 2 ^ b % 2 = 0; omega)]; decide)]
      simp [g, b2]
theorem L104a_S (R : mjR) (n a : Nat) (b e f g i : Int32) (hp : mjH) : L_104_11 R (n + 1) a b e f g i hp = b_104_11 R (L_104_11 R n) a b e f g i hp := rfl
theorem L104b_S (R : mjR) (n a : Nat) (b e f g i : Int32) (hp : mjH) : L_104_62 R (n + 1) a b e f g i hp = b_104_62 R (L_104_62 R n) a b e f g i hp := rfl
/-- owners of a KIND are no more than 6 -/
def vO (k : Nat) : Prop := ∀ i, i < 5 → oK k i ≤ 6
theorem lq_104b (hq : isP q) (hk : KNW q s kn) (hi : INP q s iN ip) (hc : ∀ c, h = some c → c < 16) (h31 : k < 2 ^ 31) (h16 : cK k < 16) (v : vO k) (A : Bool) : ∀ (r i m : Nat), i + r = iN (cK k) → r < m → L_104_62 (mjF (d + 1)) m q (oI h) (nI k) (nI (cK k)) (b2 (A && allB (fun i => knB kn h (oK k (ip (cK k) i).1) (oK k (ip (cK k) i).2)) i)) (nI i) (mjW0 s) = some (some (.int (b2 (A && allB (fun i => knB kn h (oK k (ip (cK k) i).1) (oK k (ip (cK k) i).2)) (iN (cK k))))), mjW0 s)
  | 0, i, m + 1, e, _ => by
    have h8 := (hi _ h16).2.1
    rw [L104b_S]
    unfold b_104_62
    rw [yg_3 hq, wya_3 hq h16, (hi _ h16).1, if_pos (nI_le (by omega) (by omega)), if_pos (b2_nar _), show i = iN (cK k) by omega]
  | r + 1, i, m + 1, e, hr => by
    obtain ⟨i1, i2, i3⟩ := hi _ h16
    obtain ⟨j1, j2, j3⟩ := i3 i (by omega)
    have ih := lq_104b hq hk hi hc h31 h16 v A r (i + 1) m (by omega) (by omega)
    have d7 := dv7 _ (show (ip (cK k) i).1 < 5 by omega) _ (show (ip (cK k) i).2 < 5 by omega)
    rw [L104b_S]
    unfold b_104_62 b_104_126 b_104_127
    rw [yg_3 hq, wya_3 hq h16, i1, if_neg (nI_ge (by omega) (by omega)), yg_4 hq, show nI (cK k) * (8 : Int32) + nI i = nI (8 * cK k + i) by rw [show (8 : Int32) = nI 8 from rfl, nI_mul, nI_add, Nat.mul_comm], wya_4 hq (by omega), j1, d7.2, d7.1, x_106 h31 j2, bI_s, nI_1, b2_i]
    have e1 : ∀ B, allB B (i + 1) = (allB B i && B i) := fun _ => rfl
    rw [e1, ← Bool.and_assoc] at ih
    cases hA : (A && allB (fun i => knB kn h (oK k (ip (cK k) i).1) (oK k (ip (cK k) i).2)) i) with
    | false =>
      rw [if_neg (by decide)]
      rw [hA, Bool.false_and] at ih
      exact ih
    | true =>
      rw [if_pos rfl, x_106 h31 j3, bI_s, yV hq, x_known hq hk hc (by have := v _ (show (ip (cK k) i).1 < 5 by omega); omega) (by have := v _ (show (ip (cK k) i).2 < 5 by omega); omega), bI_s, b2_i]
      rw [hA, Bool.true_and] at ih
      cases hB : knB kn h (oK k (ip (cK k) i).1) (oK k (ip (cK k) i).2) with
      | false => rw [hB] at ih; rw [if_neg (by decide)]; exact ih
      | true => rw [hB] at ih; rw [if_pos rfl]; exact ih
theorem lq_104a (hq : isP q) (hn : pnm q s nm) (hk : KNW q s kn) (hi : INP q s iN ip) (hc : ∀ c, h = some c → c < 16) (h31 : k < 2 ^ 31) (h16 : cK k < 16) (v : vO k) : ∀ (r i m : Nat), i + r = nm (cK k) → r < m → 1 ≤ i → L_104_11 (mjF (d + 1)) m q (oI h) (nI k) (nI (cK k)) (b2 (allB (fun i => decide (i = 0) || knB kn h (oK k 0) (oK k i)) i)) (nI i) (mjW0 s) = some (some (.int (b2 (nst nm iN ip kn h k))), mjW0 s)
  | 0, i, m + 1, e, _, _ => by
    have h5 := (hn _ h16).2
    have b := lq_104b (d := d) hq hk hi hc h31 h16 v (allB (fun i => decide (i = 0) || knB kn h (oK k 0) (oK k i)) i) (iN (cK k)) 0 mjN (by omega) (by have := (hi _ h16).2.1; have := mjN_v; omega)
    rw [show allB (fun i => knB kn h (oK k (ip (cK k) i).1) (oK k (ip (cK k) i).2)) 0 = true from rfl, Bool.and_true, show nI 0 = 0 from rfl] at b
    rw [L104a_S]
    unfold b_104_11
    rw [yg_1 hq, wya_1 hq h16, (hn _ h16).1, if_pos (nI_le (by omega) (by omega)), b, show i = nm (cK k) by omega]
    rfl
  | r + 1, i, m + 1, e, hr, h1 => by
    have h5 := (hn _ h16).2
    have ih := lq_104a hq hn hk hi hc h31 h16 v r (i + 1) m (by omega) (by omega) (by omega)
    rw [L104a_S]
    unfold b_104_11 b_104_50 b_104_51
    rw [yg_1 hq, wya_1 hq h16, (hn _ h16).1, if_neg (nI_ge (by omega) (by omega)), nI_1, b2_i]
    have e1 : ∀ B, allB B (i + 1) = (allB B i && B i) := fun _ => rfl
    rw [e1, show decide (i = 0) = false from decide_eq_false (by omega), Bool.false_or] at ih
    cases hA : allB (fun i => decide (i = 0) || knB kn h (oK k 0) (oK k i)) i with
    | false =>
      rw [if_neg (by decide)]
      rw [hA, Bool.false_and] at ih
      exact ih
    | true =>
      rw [if_pos rfl, show (0 : Int32) = nI 0 from rfl, x_106 h31 (by omega), bI_s, x_106 h31 (by omega), bI_s, yV hq, x_known hq hk hc (by have := v 0 (by omega); omega) (by have := v i (by omega); omega), bI_s, show nI 0 = (0 : Int32) from rfl, b2_i]
      rw [hA, Bool.true_and] at ih
      cases hB : knB kn h (oK k 0) (oK k i) with
      | false => rw [hB] at ih; rw [if_neg (by decide)]; exact ih
      | true => rw [hB] at ih; rw [if_pos rfl]; exact ih
theorem x_nested (hq : isP q) (hn : pnm q s nm) (hk : KNW q s kn) (hi : INP q s iN ip) (hc : ∀ c, h = some c → c < 16) (h31 : k < 2 ^ 31) (h16 : cK k < 16) (h1 : 1 ≤ nm (cK k)) (v : vO k) : mjF (d + 2) 104 [.ref q, .int (oI h), .int (nI k)] (mjW0 s) = some (some (.int (b2 (nst nm iN ip kn h k))), mjW0 s) := by
  rw [e_104]
  unfold f_104 b_104_0
  rw [x_105 h31, bI_s]
  have a := lq_104a (d := d) hq hn hk hi hc h31 h16 v (nm (cK k) - 1) 1 mjN (by omega) (by have := (hn _ h16).2; have := mjN_v; omega) (by omega)
  exact a
theorem L61_S (R : mjR) (n a : Nat) (b e : Int32) (hp : mjH) : L_61_2 R (n + 1) a b e hp = b_61_2 R (L_61_2 R n) a b e hp := rfl
theorem lq_61 (hT : TH T N s) (f : s.1 58 6 = nI c) (hc : c ≤ N) (hk : KDk T N t) : ∀ (r i m : Nat), i + r = cntO T 6 (t + 2) → r < m → 1 ≤ i → L_61_2 (mjF (d + 1)) m 71 (nI t) (nI i) (mjW0 s) = some (some (.int (nI (cntO T 6 (t + 2)))), mjW0 s)
  | 0, i, m + 1, e, _, h1 => by
    obtain ⟨k1, k2, k3, k4, k5, k6, k7⟩ := hk
    have hN := hT.2.1
    rw [L61_S]
    unfold b_61_2 b_61_32
    rw [show i = cntO T 6 (t + 2) by omega]
    by_cases g : cntO T 6 (t + 2) = 5
    · rw [if_pos (show (5 : Int32) ≤ nI (cntO T 6 (t + 2)) by rw [g]; decide)]
    · rw [if_neg (show ¬ (5 : Int32) ≤ nI (cntO T 6 (t + 2)) from nI_ge (b := 5) (by omega) (by decide)), xg_71_0, xV_58, show nI t + (1 : Int32) + (2 : Int32) * nI (cntO T 6 (t + 2)) = nI (t + 1 + 2 * cntO T 6 (t + 2)) by rw [show (2 : Int32) = nI 2 from rfl, nI_mul, nI_1, nI_add], j_kind hT f hc (by omega), bI_s, if_neg (by rw [k7]; decide)]
  | r + 1, i, m + 1, e, hr, h1 => by
    obtain ⟨k1, k2, k3, k4, k5, k6, k7⟩ := hk
    have hN := hT.2.1
    rw [L61_S]
    unfold b_61_2
    rw [if_neg (show ¬ (5 : Int32) ≤ nI i from nI_ge (b := 5) (by omega) (by decide)), xg_71_0, xV_58, show nI t + (1 : Int32) + (2 : Int32) * nI i = nI (t + 1 + 2 * i) by rw [show (2 : Int32) = nI 2 from rfl, nI_mul, nI_1, nI_add], j_kind hT f hc (by omega), bI_s, if_pos (k6 i h1 (by omega)), nI_1]
    exact lq_61 hT f hc ⟨k1, k2, k3, k4, k5, k6, k7⟩ r (i + 1) m (by omega) (by omega) (by omega)
theorem x_61 (hT : TH T N s) (f : s.1 58 6 = nI c) (hc : c ≤ N) (hk : KDk T N t) : mjF (d + 2) 61 [.ref 71, .int (nI t)] (mjW0 s) = some (some (.int (nI (cntO T 6 (t + 2)))), mjW0 s) := by
  rw [e_61]
  unfold f_61 b_61_0
  exact lq_61 hT f hc hk (cntO T 6 (t + 2) - 1) 1 mjN (by have := hk.2.1; omega) (by have := hk.2.2.1; have := mjN_v; omega) (by omega)
theorem ow_le (hn : HN T N L) (hh : ∀ c, h = some c → c < L.length) {beh : Bool} {o : Nat} (e : owT T L h beh t = some o) : o ≤ 6 := by
  unfold owT at e
  by_cases g : (T t).1 = 13
  · rw [if_pos g] at e; cases e; omega
  · rw [if_neg g] at e
    cases h with
    | none => cases e
    | some c =>
      dsimp only at e
      by_cases g2 : (T t).1 = 12
      · rw [if_pos g2] at e
        cases beh with
        | true => cases e
        | false => cases e; omega
      · rw [if_neg g2] at e
        have := fnd_lt e
        have := (hn.2 c (hh c rfl)).2.2.2.1
        omega
theorem x_62 (hT : TH T N s) (hk : KY T N s) (hn : HN T N L) (hs : CKs L s) (hq : isP q) (hj : s.2.2 71 2 = q) (hm : pnm q s (nmL L)) (hh : ∀ c, h = some c → c < L.length) (f : s.1 58 6 = nI c) (hc : c ≤ N) (ht : t ≤ N) (ho : isOw (T t).1) (beh : Bool) : mjF (d + 2) 62 [.ref 71, .int (oI h), .int (nI t), .int (b2 beh)] (mjW0 s) = some (some (.int (oI (owT T L h beh t))), mjW0 s) := by
  rw [e_62]
  unfold f_62 b_62_0 b_62_47 owT
  rw [xg_71_0, xV_58, j_kind hT f hc ht, bI_s]
  have key : h = none ∨ ∃ c, h = some c := by
    cases h with
    | none => exact Or.inl rfl
    | some c => exact Or.inr ⟨c, rfl⟩
  rcases ho with o | o | o
  · rw [if_pos o, if_neg (show ¬ (T t).1 = 13 by rw [o]; decide)]
    rcases key with e | ⟨c1, e⟩
    · subst e
      rw [if_pos (show oI none = -1 from rfl)]
      rfl
    · subst e
      have := hh c1 rfl
      rw [if_neg (show ¬ oI (some c1) = -1 from nI_m1 (by have := hn.1; omega)), b2_i]
      dsimp only
      rw [if_pos o]
      cases beh <;> rfl
  · rw [if_neg (show ¬ (T t).1 = 12 by rw [o]; decide), if_pos o, if_pos o]
    rfl
  · rw [if_neg (show ¬ (T t).1 = 12 by rw [o]; decide), if_neg (show ¬ (T t).1 = 13 by rw [o]; decide), if_neg (show ¬ (T t).1 = 13 by rw [o]; decide)]
    rcases key with e | ⟨c1, e⟩
    · subst e
      rw [if_pos (show oI none = -1 from rfl)]
      rfl
    · subst e
      have h1 := hh c1 rfl
      have h16 := hn.1
      rw [if_neg (show ¬ oI (some c1) = -1 from nI_m1 (by omega)), xg_71_0, xV_58, j_key hT f hc ht, bL_s, xV_71, oI_s, x_58 (n := nmL L c1) hq hj (by omega) (hm c1 (by omega)).1 (hm c1 (by omega)).2, bI_s]
      dsimp only
      rw [if_neg (show ¬ (T t).1 = 12 by rw [o]; decide), show fnd _ (nmL L c1) = _ from fn_nm hk hn hs h1 ht o]
end MJA5
