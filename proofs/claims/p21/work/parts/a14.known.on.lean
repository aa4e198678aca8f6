section
/-! ===== what is known of OWNERS ===== -/
def anyB (g : Nat → Bool) : Nat → Bool
  | 0 => false
  | n + 1 => anyB g n || g n
/-- told: a IN b -/
def kn0 (nm : Nat) (iN : Nat) (ip : Nat → Nat × Nat) (a b : Nat) : Bool := decide (a = b) || decide (b = 5) || (decide (a = 6) && decide (b = 0)) || (decide (a = 0) && decide (b < nm)) || anyB (fun j => decide (ip j = (a, b))) iN
def clo (w : Nat → Nat → Bool) : Nat → Nat → Nat → Bool
  | 0 => w
  | m + 1 => fun a b => clo w m a b || (clo w m a m && clo w m m b)
/-- the rows of what is known in CLASS c -/
def KNr (q c : Nat) (s : mjSt3) (w : Nat → Nat → Bool) : Prop := ∀ a, a < 7 → ∃ v, v < 128 ∧ s.1 (q + 11) (7 * c + a) = nI v ∧ ∀ b, b < 7 → v.testBit b = w a b
/-- CLASS c's rows alone may change -/
def oKn (q c : Nat) : mjSt3 → mjSt3 → Prop := offG (fun h j => h = q + 11 ∧ 7 * c ≤ j ∧ j < 7 * c + 7) (fun _ _ => False)
section MJA14
variable {d q c x n : Nat} {s s' : mjSt3} {w w' : Nat → Nat → Bool}
theorem KNr.cg (k : KNr q c s w) (e : ∀ a b, a < 7 → b < 7 → w a b = w' a b) : KNr q c s w' := by
  intro a ha
  obtain ⟨v, v1, v2, v3⟩ := k a ha
  exact ⟨v, v1, v2, fun b hb => (v3 b hb).trans (e a b ha hb)⟩
theorem seven (h : c < 16) {a : Nat} : nI c * (7 : Int32) + nI a = nI (7 * c + a) := by rw [show (7 : Int32) = nI 7 from rfl, nI_mul, nI_add, Nat.mul_comm]
theorem oKn.r (o : oKn q c s s') {h : Nat} (h1 : ¬ h = q + 11) : s'.1 h = s.1 h := funext fun j => o.1 h j (fun e => h1 e.1)
theorem oKn.l (o : oKn q c s s') : s'.2 = s.2 := by
  have a : s'.2.1 = s.2.1 := funext fun h => funext fun j => o.2.1 h j (fun e => e)
  exact Prod.ext a o.2.2
/-- a row put into another -/
theorem kn_or (k : KNr q c s w) {a v : Nat} (ha : a < 7) (hv : v < 128) {f : Nat → Bool} (hf : ∀ b, b < 7 → v.testBit b = f b) : ∃ v0, s.1 (q + 11) (7 * c + a) = nI v0 ∧ KNr q c (uI s (q + 11) (upd (s.1 (q + 11)) (7 * c + a) (nI (v0 ||| v)))) (fun a' b => w a' b || (decide (a' = a) && f b)) ∧ oKn q c s (uI s (q + 11) (upd (s.1 (q + 11)) (7 * c + a) (nI (v0 ||| v)))) := by
  obtain ⟨v0, h1, h2, h3⟩ := k a ha
  refine ⟨v0, h2, fun a' ha' => ?_, offG.w ⟨rfl, by omega, by omega⟩⟩
  by_cases e : a' = a
  · subst e
    refine ⟨v0 ||| v, Nat.or_lt_two_pow (n := 7) h1 hv, by rw [uI_same, upd_g, if_pos rfl], fun b hb => ?_⟩
    rw [Nat.testBit_or, h3 b hb, hf b hb]
    simp
  · obtain ⟨u, u1, u2, u3⟩ := k a' ha'
    refine ⟨u, u1, by rw [uI_same, upd_g, if_neg (by omega)]; exact u2, fun b hb => ?_⟩
    rw [u3 b hb]
    simp [e]
theorem x_117 (hq : isP q) (hc : c < 16) (k : KNr q c s w) {a b : Nat} (ha : a < 7) (hb : b < 7) : ∃ s', mjF (d + 1) 117 [.ref q, .int (nI c), .int (nI a), .int (nI b)] (mjW0 s) = some (none, mjW0 s') ∧ KNr q c s' (fun a' b' => w a' b' || (decide (a' = a) && decide (b = b'))) ∧ oKn q c s s' := by
  obtain ⟨v0, h1, h2, h3⟩ := kn_or k (v := 2 ^ b) ha (by
    have : 2 ^ b < 2 ^ 7 := Nat.pow_lt_pow_right (by omega) hb
    omega) (f := fun b' => decide (b = b')) (fun b' _ => Nat.testBit_two_pow)
  refine ⟨_, ?_, h2, h3⟩
  rw [e_117]
  unfold f_117 b_117_0
  rw [yg_11 hq, seven hc, wya_11 hq (by omega), wys_11 hq (by omega), h1, show (1 : Int32) <<< (nI b &&& 31) = nI (2 ^ b) by
    rw [show (1 : Int32) = nI 1 from rfl, pk_shlN _ b (sh_l b (by omega)) (by
      have : 2 ^ b < 2 ^ 7 := Nat.pow_lt_pow_right (by omega) hb
      omega), Nat.one_mul], nI_or]
theorem L116a_S (R : mjR) (n a : Nat) (b e : Int32) (hp : mjH) : L_116_2 R (n + 1) a b e hp = b_116_2 R (L_116_2 R n) a b e hp := rfl
theorem L116b_S (R : mjR) (n a : Nat) (b e : Int32) (hp : mjH) : L_116_38 R (n + 1) a b e hp = b_116_38 R (L_116_38 R n) a b e hp := rfl
theorem L116c_S (R : mjR) (n a : Nat) (b e : Int32) (hp : mjH) : L_116_63 R (n + 1) a b e hp = b_116_63 R (L_116_63 R n) a b e hp := rfl
theorem lq_116c (hq : isP q) (hc : c < 16) {iN : Nat → Nat} {ip : Nat → Nat → Nat × Nat} {w0 : Nat → Nat → Bool} : ∀ (r i m : Nat) (s : mjSt3), i + r = iN c → r < m → INP q s iN ip → KNr q c s (fun a b => w0 a b || anyB (fun j => decide (ip c j = (a, b))) i) → ∃ s', L_116_63 (mjF (d + 1)) m q (nI c) (nI i) (mjW0 s) = some (none, mjW0 s') ∧ KNr q c s' (fun a b => w0 a b || anyB (fun j => decide (ip c j = (a, b))) (iN c)) ∧ oKn q c s s'
  | 0, i, m + 1, s, e, _, I, k => by
    have h8 := (I c hc).2.1
    refine ⟨s, ?_, ?_, offG.rf⟩
    · rw [L116c_S]
      unfold b_116_63
      rw [yg_3 hq, wya_3 hq hc, (I c hc).1, if_pos (nI_le (by omega) (by omega))]
    · rw [← show i = iN c by omega]; exact k
  | r + 1, i, m + 1, s, e, hr, I, k => by
    have hq' : q = 2 ∨ q = 30 := hq
    obtain ⟨i1, i2, i3⟩ := I c hc
    obtain ⟨j1, j2, j3⟩ := i3 i (by omega)
    have d7 := dv7 _ (show (ip c i).1 < 5 by omega) _ (show (ip c i).2 < 5 by omega)
    obtain ⟨z, a1, a2, a3⟩ := x_117 (d := d) hq hc k (a := (ip c i).1) (b := (ip c i).2) (by omega) (by omega)
    obtain ⟨s', b1, b2', b3⟩ := lq_116c (w0 := w0) (iN := iN) (ip := ip) hq hc r (i + 1) m z (by omega) (by omega) (by unfold INP; rw [a3.r (by omega), a3.r (by omega)]; exact I) (a2.cg (fun a b ha hb => by
      show (w0 a b || anyB _ i || _) = (w0 a b || (anyB _ i || decide (ip c i = (a, b))))
      have : (decide (ip c i = (a, b))) = (decide (a = (ip c i).1) && decide ((ip c i).2 = b)) := by
        rw [← Bool.decide_and]
        refine decide_eq_decide.mpr ⟨fun e => ?_, fun e => ?_⟩
        · rw [e]; exact ⟨rfl, rfl⟩
        · exact Prod.ext e.1.symm e.2
      rw [this, Bool.or_assoc]))
    refine ⟨s', ?_, b2', a3.tr b3⟩
    rw [L116c_S]
    unfold b_116_63
    rw [yg_3 hq, wya_3 hq hc, i1, if_neg (nI_ge (by omega) (by omega)), yg_4 hq, show nI c * (8 : Int32) + nI i = nI (8 * c + i) by rw [show (8 : Int32) = nI 8 from rfl, nI_mul, nI_add, Nat.mul_comm], wya_4 hq (by omega), j1, d7.2, d7.1, yV hq, a1, bN_s, nI_1]
    exact b1
theorem lq_116b (hq : isP q) (hc : c < 16) {nm iN : Nat → Nat} {ip : Nat → Nat → Nat × Nat} {w0 : Nat → Nat → Bool} : ∀ (r i m : Nat) (s : mjSt3), i + r = nm c → r < m → pnm q s nm → INP q s iN ip → KNr q c s (fun a b => w0 a b || (decide (a = 0) && decide (b < i))) → ∃ s', L_116_38 (mjF (d + 1)) m q (nI c) (nI i) (mjW0 s) = some (none, mjW0 s') ∧ KNr q c s' (fun a b => w0 a b || (decide (a = 0) && decide (b < nm c)) || anyB (fun j => decide (ip c j = (a, b))) (iN c)) ∧ oKn q c s s'
  | 0, i, m + 1, s, e, _, hn, I, k => by
    have h5 := (hn c hc).2
    obtain ⟨s', a1, a2, a3⟩ := lq_116c (d := d) (iN := iN) (ip := ip) (w0 := fun a b => w0 a b || (decide (a = 0) && decide (b < nm c))) hq hc (iN c) 0 mjN s (by omega) (by have := (I c hc).2.1; have := mjN_v; omega) I (k.cg (fun a b _ _ => by
      show (w0 a b || _) = (w0 a b || _ || false)
      rw [Bool.or_false, show i = nm c by omega]))
    refine ⟨s', ?_, a2, a3⟩
    rw [L116b_S]
    unfold b_116_38
    rw [yg_1 hq, wya_1 hq hc, (hn c hc).1, if_pos (nI_le (by omega) (by omega))]
    exact a1
  | r + 1, i, m + 1, s, e, hr, hn, I, k => by
    have hq' : q = 2 ∨ q = 30 := hq
    have h5 := (hn c hc).2
    obtain ⟨z, a1, a2, a3⟩ := x_117 (d := d) hq hc k (a := 0) (b := i) (by omega) (by omega)
    obtain ⟨s', b1, b2', b3⟩ := lq_116b (w0 := w0) (nm := nm) (iN := iN) (ip := ip) hq hc r (i + 1) m z (by omega) (by omega) (by unfold pnm; rw [a3.r (by omega)]; exact hn) (by unfold INP; rw [a3.r (by omega), a3.r (by omega)]; exact I) (a2.cg (fun a b _ _ => by
      try dsimp only
      have h : ((decide (a = 0) && decide (b < i)) || (decide (a = 0) && decide (i = b))) = (decide (a = 0) && decide (b < i + 1)) := by
        by_cases ea : a = 0
        · by_cases eb : i = b
          · simp [ea, eb]
          · have : decide (b < i + 1) = decide (b < i) := decide_eq_decide.mpr (by omega)
            simp [ea, eb, this]
        · simp [ea]
      rw [Bool.or_assoc, h]))
    refine ⟨s', ?_, b2', a3.tr b3⟩
    rw [L116b_S]
    unfold b_116_38
    rw [yg_1 hq, wya_1 hq hc, (hn c hc).1, if_neg (nI_ge (by omega) (by omega)), yV hq, show (0 : Int32) = nI 0 from rfl, a1, bN_s, nI_1]
    exact b1
theorem lq_116a (hq : isP q) (hc : c < 16) {nm iN : Nat → Nat} {ip : Nat → Nat → Nat × Nat} : ∀ (r x m : Nat) (s : mjSt3), x + r = 7 → r < m → pnm q s nm → INP q s iN ip → KNr q c s (fun a b => decide (a < x) && (decide (a = b) || decide (b = 5))) → ∃ s', L_116_2 (mjF (d + 1)) m q (nI c) (nI x) (mjW0 s) = some (none, mjW0 s') ∧ KNr q c s' (kn0 (nm c) (iN c) (ip c)) ∧ oKn q c s s'
  | 0, x, m + 1, s, e, _, hn, I, k => by
    have hq' : q = 2 ∨ q = 30 := hq
    obtain ⟨z, a1, a2, a3⟩ := x_117 (d := d) hq hc k (a := 6) (b := 0) (by omega) (by omega)
    obtain ⟨s', b1, b2', b3⟩ := lq_116b (d := d) (nm := nm) (iN := iN) (ip := ip) (w0 := fun a b => decide (a = b) || decide (b = 5) || (decide (a = 6) && decide (b = 0))) hq hc (nm c) 0 mjN z (by omega) (by have := (hn c hc).2; have := mjN_v; omega) (by unfold pnm; rw [a3.r (by omega)]; exact hn) (by unfold INP; rw [a3.r (by omega), a3.r (by omega)]; exact I) (a2.cg (fun a b ha _ => by
      try dsimp only
      have : decide (b < 0) = false := decide_eq_false (by omega)
      have h7 : decide (a < x) = true := decide_eq_true (by omega)
      have h0 : decide (0 = b) = decide (b = 0) := decide_eq_decide.mpr (by omega)
      rw [this, h7, h0, Bool.and_false, Bool.or_false, Bool.true_and]))
    refine ⟨s', ?_, b2', a3.tr b3⟩
    rw [L116a_S]
    unfold b_116_2
    rw [if_pos (show (7 : Int32) ≤ nI x from nI_le (a := 7) (by omega) (by omega)), yV hq, show (6 : Int32) = nI 6 from rfl, show (0 : Int32) = nI 0 from rfl, a1, bN_s]
    exact b1
  | r + 1, x, m + 1, s, e, hr, hn, I, k => by
    have hq' : q = 2 ∨ q = 30 := hq
    obtain ⟨z, a1, a2, a3⟩ := x_117 (d := d) hq hc k (a := x) (b := x) (by omega) (by omega)
    obtain ⟨y, c1, c2, c3⟩ := x_117 (d := d) hq hc a2 (a := x) (b := 5) (by omega) (by omega)
    have o2 : oKn q c s y := a3.tr c3
    obtain ⟨s', b1, b2', b3⟩ := lq_116a (nm := nm) (iN := iN) (ip := ip) hq hc r (x + 1) m y (by omega) (by omega) (by unfold pnm; rw [o2.r (by omega)]; exact hn) (by unfold INP; rw [o2.r (by omega), o2.r (by omega)]; exact I) (c2.cg (fun a b _ _ => by
      try dsimp only
      have h5 : decide (5 = b) = decide (b = 5) := decide_eq_decide.mpr (by omega)
      by_cases ea : a = x
      · subst ea
        have h1 : decide (a < a) = false := decide_eq_false (by omega)
        have h2 : decide (a < a + 1) = true := decide_eq_true (by omega)
        simp [h5]
      · have h1 : decide (a < x + 1) = decide (a < x) := decide_eq_decide.mpr (by omega)
        simp [ea, h1]))
    refine ⟨s', ?_, b2', o2.tr b3⟩
    rw [L116a_S]
    unfold b_116_2
    rw [if_neg (show ¬ (7 : Int32) ≤ nI x from nI_ge (b := 7) (by omega) (by decide)), yV hq, a1, bN_s, yV hq, show (5 : Int32) = nI 5 from rfl, c1, bN_s, nI_1]
    exact b1
theorem L118a_S (R : mjR) (n a : Nat) (b e : Int32) (hp : mjH) : L_118_2 R (n + 1) a b e hp = b_118_2 R (L_118_2 R n) a b e hp := rfl
theorem L118b_S (R : mjR) (k2 : Nat → Int32 → Int32 → mjH → mjU) (n a : Nat) (b e f : Int32) (hp : mjH) : L_118_10 R k2 (n + 1) a b e f hp = b_118_10 R k2 (L_118_10 R k2 n) a b e f hp := rfl
/-- isKnown by a CLASS's rows -/
theorem x_knr (hq : isP q) (hc : c < 16) (k : KNr q c s w) {a b : Nat} (ha : a < 7) (hb : b < 7) : mjF (d + 1) 107 [.ref q, .int (nI c), .int (nI a), .int (nI b)] (mjW0 s) = some (some (.int (b2 (w a b))), mjW0 s) := by
  obtain ⟨v, w1, w2, w3⟩ := k a ha
  rw [e_107]
  unfold f_107 b_107_0
  rw [if_neg (nI_m1 (by omega)), yg_11 hq, seven hc, wya_11 hq (by omega), w2, pk_shrN (by omega) _ b (sh_l b (by omega)), pk_andN (Nat.lt_of_le_of_lt (Nat.div_le_self _ _) (by omega)) 1 (by decide)]
  have tb : v.testBit b = decide (v / 2 ^ b % 2 = 1) := Nat.testBit_eq_decide_div_mod_eq
  rw [w3 b hb] at tb
  rw [tb]
  have m2 : v / 2 ^ b % 2 < 2 := Nat.mod_lt _ (by omega)
  by_cases g : v / 2 ^ b % 2 = 1
  · rw [if_neg (show ¬ nI (v / 2 ^ b % 2 ^ 1) = 0 by rw [show v / 2 ^ b % 2 ^ 1 = 1 from g]; decide)]
    simp [g, b2]
  · rw [if_pos (show nI (v / 2 ^ b % 2 ^ 1) = 0 by rw [show v / 2 ^ b % 2 ^ 1 = 0 from (by show v / 2 ^ b % 2 = 0; omega)]; decide)]
    simp [g, b2]
theorem lq_118b (hq : isP q) (hc : c < 16) (k2 : Nat → Int32 → Int32 → mjH → mjU) {t : Nat} (ht : t < 7) : ∀ (r x m : Nat) (s : mjSt3), x + r = 7 → r < m → KNr q c s (fun a b => w a b || (decide (a < x) && (w a t && w t b))) → ∃ s', L_118_10 (mjF (d + 1)) k2 m q (nI c) (nI t) (nI x) (mjW0 s) = k2 q (nI c) (nI (t + 1)) (mjW0 s') ∧ KNr q c s' (fun a b => w a b || (w a t && w t b)) ∧ oKn q c s s'
  | 0, x, m + 1, s, e, _, k => by
    refine ⟨s, ?_, k.cg (fun a b ha _ => ?_), offG.rf⟩
    · rw [L118b_S]
      unfold b_118_10
      rw [if_pos (show (7 : Int32) ≤ nI x from nI_le (a := 7) (by omega) (by omega)), nI_1]
    · have h7 : decide (a < x) = true := decide_eq_true (by omega)
      try dsimp only
      rw [h7, Bool.true_and]
  | r + 1, x, m + 1, s, e, hr, k => by
    have hw : (w x t || (decide (x < x) && (w x t && w t t))) = w x t := by simp
    have nxt : ∀ z, oKn q c s z → KNr q c z (fun a b => w a b || (decide (a < x + 1) && (w a t && w t b))) → L_118_10 (mjF (d + 1)) k2 (m + 1) q (nI c) (nI t) (nI x) (mjW0 s) = L_118_10 (mjF (d + 1)) k2 m q (nI c) (nI t) (nI (x + 1)) (mjW0 z) → ∃ s', L_118_10 (mjF (d + 1)) k2 (m + 1) q (nI c) (nI t) (nI x) (mjW0 s) = k2 q (nI c) (nI (t + 1)) (mjW0 s') ∧ KNr q c s' (fun a b => w a b || (w a t && w t b)) ∧ oKn q c s s' := by
      intro z oz kz pr
      obtain ⟨s', b1, b2', b3⟩ := lq_118b hq hc k2 ht r (x + 1) m z (by omega) (by omega) kz
      exact ⟨s', pr.trans b1, b2', oz.tr b3⟩
    have pre : L_118_10 (mjF (d + 1)) k2 (m + 1) q (nI c) (nI t) (nI x) (mjW0 s) = _ := L118b_S _ _ _ _ _ _ _ _
    unfold b_118_10 b_118_51 at pre
    rw [if_neg (show ¬ (7 : Int32) ≤ nI x from nI_ge (b := 7) (by omega) (by decide)), yV hq, x_knr hq hc k (by omega) ht, bI_s, hw, b2_i, nI_1] at pre
    cases h : w x t with
    | false =>
      rw [h, if_neg (by decide)] at pre
      refine nxt s offG.rf (k.cg (fun a b _ _ => ?_)) pre
      try dsimp only
      by_cases ea : a = x
      · subst ea; simp [h]
      · have h1 : decide (a < x + 1) = decide (a < x) := decide_eq_decide.mpr (by omega)
        rw [h1]
    | true =>
      obtain ⟨v, v1, v2, v3⟩ := k t ht
      obtain ⟨v0, u1, u2, u3⟩ := kn_or k (a := x) (v := v) (by omega) v1 v3
      rw [h, if_pos rfl, yg_11 hq, seven hc, wya_11 hq (by omega), yg_11 hq, seven hc, wya_11 hq (by omega), u1, v2, wys_11 hq (by omega), nI_or] at pre
      refine nxt _ u3 (u2.cg (fun a b _ _ => ?_)) pre
      try dsimp only
      by_cases ea : a = x
      · subst ea
        have hn : decide (a < a) = false := decide_eq_false (by omega)
        have hs : decide (a < a + 1) = true := decide_eq_true (by omega)
        rw [hn, hs, h, decide_eq_true rfl]
        cases w t b <;> cases decide (t < a) <;> cases w t t <;> cases w a b <;> rfl
      · have h1 : decide (a < x + 1) = decide (a < x) := decide_eq_decide.mpr (by omega)
        rw [h1, decide_eq_false ea, Bool.false_and, Bool.or_false]
theorem lq_118 (hq : isP q) (hc : c < 16) : ∀ (r t m : Nat) (s : mjSt3), t + r = 7 → r < m → KNr q c s (clo w t) → ∃ s', L_118_2 (mjF (d + 1)) m q (nI c) (nI t) (mjW0 s) = some (none, mjW0 s') ∧ KNr q c s' (clo w 7) ∧ oKn q c s s'
  | 0, t, m + 1, s, e, _, k => by
    refine ⟨s, ?_, by rw [← show t = 7 by omega]; exact k, offG.rf⟩
    rw [L118a_S]
    unfold b_118_2
    rw [if_pos (show (7 : Int32) ≤ nI t from nI_le (a := 7) (by omega) (by omega))]
  | r + 1, t, m + 1, s, e, hr, k => by
    obtain ⟨z, a1, a2, a3⟩ := lq_118b (d := d) (w := clo w t) hq hc (L_118_2 (mjF (d + 1)) m) (t := t) (by omega) 7 0 mjN s (by omega) (by have := mjN_v; omega) (k.cg (fun a b _ _ => by
      have : decide (a < 0) = false := decide_eq_false (by omega)
      rw [this, Bool.false_and, Bool.or_false]))
    obtain ⟨s', b1, b2', b3⟩ := lq_118 hq hc r (t + 1) m z (by omega) (by omega) a2
    refine ⟨s', ?_, b2', a3.tr b3⟩
    rw [L118a_S]
    unfold b_118_2
    rw [if_neg (show ¬ (7 : Int32) ≤ nI t from nI_ge (b := 7) (by omega) (by decide))]
    exact a1.trans b1
end MJA14
end
section
/-! ===== fillKnown ===== -/
def knT (T : TT) (L : List CD) (c a b : Nat) : Bool := clo (kn0 (nmL L c) (inL L c) (ipT T L c)) 7 a b
def knF (T : TT) (L : List CD) (c a b : Nat) : Bool := if c < L.length then knT T L c a b else false
section MJA15
variable {T : TT} {d N q c t n e k u v : Nat} {s s' : mjSt3} {L : List CD}
theorem L115_S (R : mjR) (n a : Nat) (b : Int32) (hp : mjH) : L_115_2 R (n + 1) a b hp = b_115_2 R (L_115_2 R n) a b hp := rfl
theorem lq_115 (hn : HN T N L) (hq : isP q) : ∀ (r c m : Nat) (s : mjSt3), c + r = L.length → r < m → s.1 q 0 = nI L.length → pnm q s (nmL L) → INP q s (inL L) (ipT T L) → (∀ b, b < c → KNr q b s (knT T L b)) → (∀ j, 7 * c ≤ j → j < 112 → s.1 (q + 11) j = 0) → ∃ s', L_115_2 (mjF (d + 2)) m q (nI c) (mjW0 s) = some (none, mjW0 s') ∧ oRow (q + 11) s s' ∧ (∀ b, b < L.length → KNr q b s' (knT T L b)) ∧ (∀ j, 7 * L.length ≤ j → j < 112 → s'.1 (q + 11) j = 0) ∧ s'.1 58 = s.1 58
  | 0, c, m + 1, s, e, _, h0, hm, I, w, w' => by
    have h16 := hn.1
    refine ⟨s, ?_, offG.rf, fun b hb => w b (by omega), fun j h1 h2 => w' j (by omega) h2, rfl⟩
    rw [L115_S]
    unfold b_115_2
    rw [yg_0 hq, h0, if_pos (nI_le (by omega) (by omega))]
  | r + 1, c, m + 1, s, e, hr, h0, hm, I, w, w' => by
    have h16 := hn.1
    have hq' : q = 2 ∨ q = 30 := hq
    have hc : c < L.length := by omega
    have k0 : KNr q c s (fun a b => decide (a < 0) && (decide (a = b) || decide (b = 5))) := fun a ha => ⟨0, by omega, w' _ (by omega) (by omega), fun b hb => by
      have : decide (a < 0) = false := decide_eq_false (by omega)
      dsimp only
      rw [this, Bool.false_and, Nat.zero_testBit]⟩
    obtain ⟨z, a1, a2, a3⟩ := lq_116a (d := d) hq (c := c) (by omega) 7 0 mjN s (by omega) (by have := mjN_v; omega) hm I k0
    obtain ⟨y, b1, b2', b3⟩ := lq_118 (d := d) hq (c := c) (by omega) 7 0 mjN z (by omega) (by have := mjN_v; omega) a2
    have o2 : oKn q c s y := a3.tr b3
    have orow : oRow (q + 11) s y := offG.mono o2 (fun x y h => Or.inr h.1) (fun _ _ h => h.elim)
    obtain ⟨s', c1, c2, c3, c4, c5⟩ := lq_115 hn hq r (c + 1) m y (by omega) (by omega) (by rw [o2.r (by omega)]; exact h0) (by unfold pnm; rw [o2.r (by omega)]; exact hm) (by unfold INP; rw [o2.r (by omega), o2.r (by omega)]; exact I) (fun b hb => by
      by_cases eb : b = c
      · rw [eb]; exact b2'
      · intro a ha
        obtain ⟨v, v1, v2, v3⟩ := w b (by omega) a ha
        exact ⟨v, v1, (o2.1 (q + 11) (7 * b + a) (by omega)).trans v2, v3⟩) (fun j h1 h2 => by rw [o2.1 (q + 11) j (by omega)]; exact w' j (by omega) h2)
    refine ⟨s', ?_, orow.tr c2, c3, c4, c5.trans (o2.r (by omega))⟩
    have e116 : mjF (d + 2) 116 [.ref q, .int (nI c)] (mjW0 s) = some (none, mjW0 z) := by
      rw [e_116]
      unfold f_116 b_116_0
      exact a1
    have e118 : mjF (d + 2) 118 [.ref q, .int (nI c)] (mjW0 z) = some (none, mjW0 y) := by
      rw [e_118]
      unfold f_118 b_118_0
      exact b1
    rw [L115_S]
    unfold b_115_2
    rw [yg_0 hq, h0, if_neg (nI_ge (by omega) (by omega)), yV hq, e116, bN_s, yV hq, e118, bN_s, nI_1]
    exact c1
/-- fillKnown -/
theorem x_115 (hn : HN T N L) (hq : isP q) (h0 : s.1 q 0 = nI L.length) (hm : pnm q s (nmL L)) (I : INP q s (inL L) (ipT T L)) (w : ∀ j, j < 112 → s.1 (q + 11) j = 0) : ∃ s', mjF (d + 3) 115 [.ref q] (mjW0 s) = some (none, mjW0 s') ∧ oRow (q + 11) s s' ∧ KNW q s' (knF T L) ∧ s'.1 58 = s.1 58 := by
  have h16 := hn.1
  obtain ⟨s', a1, a2, a3, a4, a5⟩ := lq_115 (d := d) hn hq L.length 0 mjN s (by omega) (by have := mjN_v; omega) h0 hm I (fun b hb => absurd hb (by omega)) (fun j _ hj => w j hj)
  refine ⟨s', ?_, a2, fun c hc a ha => ?_, a5⟩
  · rw [e_115]
    unfold f_115 b_115_0
    exact a1
  · by_cases hl : c < L.length
    · obtain ⟨v, v1, v2, v3⟩ := a3 c hl a ha
      exact ⟨v, v1, v2, fun b hb => by rw [v3 b hb]; unfold knF; rw [if_pos hl]⟩
    · exact ⟨0, by omega, a4 _ (by omega) (by omega), fun b hb => by unfold knF; rw [if_neg hl, Nat.zero_testBit]⟩
end MJA15
/-! ===== all MEMBERS in a row ===== -/
def flat (c : Nat) : List CD → List (Nat × MD)
  | [] => []
  | D :: L => D.2.map (fun md => (c, md)) ++ flat (c + 1) L
def FL (L : List CD) : List (Nat × MD) := flat 0 L
theorem flat_at : ∀ (L : List CD) (b c k : Nat) (D : CD) (md : MD), L[c]? = some D → D.2[k]? = some md → (flat b L)[nMem (L.take c) + k]? = some (b + c, md)
  | [], b, c, k, D, md, h, _ => by cases h
  | E :: L, b, 0, k, D, md, h, hk => by
    cases h
    have hl := (List.getElem?_eq_some_iff.mp hk).1
    show (E.2.map (fun md => (b, md)) ++ flat (b + 1) L)[0 + k]? = _
    rw [Nat.zero_add, List.getElem?_append_left (by rw [List.length_map]; exact hl), List.getElem?_map, hk]
    rfl
  | E :: L, b, c + 1, k, D, md, h, hk => by
    have e : nMem ((E :: L).take (c + 1)) = E.2.length + nMem (L.take c) := by
      unfold nMem
      simp
    show (E.2.map (fun md => (b, md)) ++ flat (b + 1) L)[nMem ((E :: L).take (c + 1)) + k]? = _
    rw [e, List.getElem?_append_right (by rw [List.length_map]; omega), List.length_map, show E.2.length + nMem (L.take c) + k - E.2.length = nMem (L.take c) + k by omega, flat_at L (b + 1) c k D md h hk]
    congr 2
    omega
theorem flat_len : ∀ (L : List CD) (b : Nat), (flat b L).length = nMem L
  | [], _ => rfl
  | E :: L, b => by
    show (E.2.map (fun md => (b, md)) ++ flat (b + 1) L).length = _
    rw [List.length_append, List.length_map, flat_len L (b + 1)]
    unfold nMem
    simp
theorem flat_ex : ∀ (L : List CD) (b m : Nat) (c : Nat) (md : MD), (flat b L)[m]? = some (c, md) → ∃ D k, b ≤ c ∧ L[c - b]? = some D ∧ D.2[k]? = some md ∧ m = nMem (L.take (c - b)) + k
  | [], b, m, c, md, h => by cases h
  | E :: L, b, m, c, md, h => by
    by_cases g : m < E.2.length
    · have h' : (E.2.map (fun md => (b, md)) ++ flat (b + 1) L)[m]? = some (c, md) := h
      rw [List.getElem?_append_left (by rw [List.length_map]; exact g), List.getElem?_map] at h'
      cases hk : E.2[m]? with
      | none => rw [hk] at h'; cases h'
      | some x =>
        rw [hk] at h'
        cases h'
        exact ⟨E, m, Nat.le_refl _, by rw [Nat.sub_self]; rfl, hk, by rw [Nat.sub_self]; show m = 0 + m; omega⟩
    · have h' : (E.2.map (fun md => (b, md)) ++ flat (b + 1) L)[m]? = some (c, md) := h
      rw [List.getElem?_append_right (by rw [List.length_map]; omega), List.length_map] at h'
      obtain ⟨D, k, a1, a2, a3, a4⟩ := flat_ex L (b + 1) _ c md h'
      refine ⟨D, k, by omega, ?_, a3, ?_⟩
      · rw [show c - b = (c - (b + 1)) + 1 by omega]; exact a2
      · rw [show c - b = (c - (b + 1)) + 1 by omega]
        have e : nMem ((E :: L).take (c - (b + 1) + 1)) = E.2.length + nMem (L.take (c - (b + 1))) := by
          unfold nMem
          simp
        rw [e]
        omega
/-- MEMBER m: its CLASS, what was read of it -/
def hmM (L : List CD) (m : Nat) : Nat := match (FL L)[m]? with
  | some x => x.1
  | none => 0
def mdM (L : List CD) (m : Nat) : MD := match (FL L)[m]? with
  | some x => x.2
  | none => (0, 0, false, [], 0, 0, 0, 0)
theorem FL_at {L : List CD} {c k : Nat} {D : CD} {md : MD} (h : L[c]? = some D) (hk : D.2[k]? = some md) : hmM L (nMem (L.take c) + k) = c ∧ mdM L (nMem (L.take c) + k) = md := by
  have := flat_at L 0 c k D md h hk
  rw [Nat.zero_add] at this
  unfold hmM mdM FL
  rw [this]
  exact ⟨rfl, rfl⟩
theorem FL_ex {L : List CD} {m : Nat} (h : m < nMem L) : ∃ c D k, L[c]? = some D ∧ D.2[k]? = some (mdM L m) ∧ m = nMem (L.take c) + k ∧ hmM L m = c := by
  have hl : m < (FL L).length := by unfold FL; rw [flat_len]; exact h
  obtain ⟨⟨c, md⟩, hx⟩ : ∃ x, (FL L)[m]? = some x := ⟨_, List.getElem?_eq_getElem hl⟩
  obtain ⟨D, k, a1, a2, a3, a4⟩ := flat_ex L 0 m c md hx
  rw [Nat.sub_zero] at a2 a4
  refine ⟨c, D, k, a2, ?_, a4, ?_⟩
  · unfold mdM; rw [hx]; exact a3
  · unfold hmM; rw [hx]
end
section
/-! ===== (d): TYPES and NAMES of MEMBERS ===== -/
def fmL (L : List CD) (c : Nat) : Nat := nMem (L.take c)
def mcL (L : List CD) (c : Nat) : Nat := match L[c]? with
  | some D => D.2.length
  | none => 0
/-- the NAME of MEMBER m -/
def nkM (T : TT) (L : List CD) (m : Nat) : Int64 := kyT T (mdM L m).2.1
/-- the first MEMBER of that NAME told in CLASS c -/
def omT (T : TT) (L : List CD) (c : Nat) (k : Int64) : Option Nat := match fnd (fun i => decide (nkM T L (fmL L c + i) = k)) (mcL L c) with
  | none => none
  | some i => some (fmL L c + i)
/-- a TYPE stands at t; what is behind it -/
def TYk (T : TT) (N t : Nat) : Prop := (T t).1 = 10 ∧ t < N ∨ ¬ (T t).1 = 10 ∧ KDk T N t
def teT (T : TT) (t : Nat) : Nat := if (T t).1 = 10 then t + 1 else t + 2 + 2 * cntO T 6 (t + 2)
/-- the TYPE at t (0 int, a KIND and 2) -/
def tyT (T : TT) (L : List CD) (h : Option Nat) (t : Nat) : Nat := if (T t).1 = 10 then 0 else match kdT T L h false t with
  | some k => k + 2
  | none => 0
def nsT (T : TT) (L : List CD) (h : Option Nat) (k : Nat) : Bool := nst (nmL L) (inL L) (ipT T L) (knF T L) h k
def tyOK (T : TT) (L : List CD) (tr : Bool) (h : Option Nat) (t : Nat) : Prop := ¬ (T t).1 = 10 → ∃ k, kdT T L h false t = some k ∧ (tr || nsT T L h k) = true
/-- what the reader left of the MEMBERS -/
def RDM (T : TT) (N q : Nat) (L : List CD) (s : mjSt3) : Prop := (∀ c, c < L.length → s.1 (q + 9) c = nI (fmL L c) ∧ s.1 (q + 10) c = nI (mcL L c)) ∧ s.1 (q + 14) 0 = nI (nMem L) ∧ nMem L ≤ 384 ∧ (∀ c, c < L.length → mcL L c ≤ 24 ∧ fmL L c + mcL L c ≤ nMem L) ∧ ∀ m, m < nMem L → s.1 (q + 16) m = nI (hmM L m) ∧ hmM L m < L.length ∧ s.1 68 m = nI (mdM L m).1 ∧ s.1 69 m = nI (mdM L m).2.1 ∧ s.2.1 (q + 15) m = s.2.1 62 (mdM L m).2.1 ∧ s.1 (q + 18) m = b2 (mdM L m).2.2.1 ∧ s.1 (q + 20) m = nI (mdM L m).2.2.2.1.length
/-- what stands at a MEMBER -/
def PFm (T : TT) (N : Nat) (L : List CD) : Prop := ∀ m, m < nMem L → TYk T N (mdM L m).1 ∧ teT T (mdM L m).1 = (mdM L m).2.1 ∧ (T (mdM L m).2.1).1 = 3 ∧ (mdM L m).2.1 + 2 ≤ N ∧ (mdM L m).2.2.2.1.length ≤ 6 ∧ ∀ (i : Nat) (p : Nat × Nat × Int32), (mdM L m).2.2.2.1[i]? = some p → TYk T N p.1 ∧ teT T p.1 = p.2.1 ∧ (T p.2.1).1 = 3 ∧ p.2.1 + 2 ≤ N ∧ p.1 = (match i with
    | 0 => (mdM L m).2.1 + 2
    | j + 1 => (match (mdM L m).2.2.2.1[j]? with
      | some p' => p'.2.1 + 2
      | none => 0))
section MJA16
variable {T : TT} {d N q c t n e k u v : Nat} {s s' : mjSt3} {L : List CD} {h : Option Nat}
theorem TYk.te (hk : TYk T N t) : t ≤ N ∧ teT T t ≤ N := by
  rcases hk with ⟨a, b⟩ | ⟨a, b⟩
  · unfold teT; rw [if_pos a]; omega
  · have := b.2.2.2.1
    unfold teT; rw [if_neg a]; omega
theorem ty_lt (hn : HN T N L) (hh : ∀ c, h = some c → c < L.length) : tyT T L h t < 524290 := by
  unfold tyT
  by_cases g : (T t).1 = 10
  · rw [if_pos g]; omega
  · rw [if_neg g]
    cases hk : kdT T L h false t with
    | none => show 0 < 524290; omega
    | some k =>
      obtain ⟨_, _, _, _, _, _, v⟩ := kd_v hn hh hk
      have := v.lt hn
      show k + 2 < 524290
      omega
/-- typeHere -/
theorem x_68 (X : JX T N q L s) (hh : ∀ c, h = some c → c < L.length) (f : fne s t) (hk : TYk T N t) (tr : Bool) (htr : s.1 71 4 = b2 tr) (K : KNW q s (knF T L)) (I : INP q s (inL L) (ipT T L)) : (tyOK T L tr h t → mjF (d + 4) 68 [.ref 71, .int (oI h)] (mjW0 s) = some (some (.int (tyI (tyT T L h t))), mjW0 (tkGo s (teT T t)))) ∧ (¬ tyOK T L tr h t → ∃ w s', mjF (d + 4) 68 [.ref 71, .int (oI h)] (mjW0 s) = some (some (.int w), mjW0 s') ∧ bdd N s' ∧ o58 s s') := by
  have x1 := X.1
  have tN := hk.te
  have pre : mjF (d + 4) 68 [.ref 71, .int (oI h)] (mjW0 s) = _ := e_68 (d := d + 3)
  unfold f_68 b_68_0 at pre
  rw [xg_71_0, xV_58, j_is x1 f.1 tN.1, bI_s, i01] at pre
  rcases hk with ⟨a, b⟩ | ⟨a, b⟩
  · rw [if_pos a, xg_71_0, xV_58, j_skip x1 f b, bN_s] at pre
    refine ⟨fun _ => ?_, fun no => absurd (fun g => absurd a g) no⟩
    unfold tyT teT
    rw [if_pos a, if_pos a]
    exact pre
  · rw [if_neg a, xV_71] at pre
    have Z := x_60 (d := d) (iN := inL L) (ip := ipT T L) (kn := knF T L) X hh f b false tr htr (Or.inr (Or.inr ⟨K, I⟩))
    rw [show (0 : Int32) = b2 false from rfl] at pre
    cases hkd : kdT T L h false t with
    | none =>
      rw [hkd] at Z
      obtain ⟨s', z1, z2, z3⟩ := Z
      rw [z1, bI_s] at pre
      refine ⟨fun ok => ?_, fun _ => ⟨_, s', pre, z2, z3⟩⟩
      obtain ⟨k, u, _⟩ := ok a
      rw [hkd] at u
      cases u
    | some k =>
      rw [hkd] at Z
      dsimp only at Z
      rw [Bool.false_or] at Z
      by_cases g : (tr || nsT T L h k) = true
      · rw [if_pos (show (tr || nst (nmL L) (inL L) (ipT T L) (knF T L) h k) = true from g)] at Z
        rw [Z, bI_s] at pre
        refine ⟨fun _ => ?_, fun no => absurd (fun _ => ⟨k, hkd, g⟩) no⟩
        unfold tyT teT
        rw [if_neg a, if_neg a, hkd]
        exact pre
      · rw [if_neg (show ¬ (tr || nst (nmL L) (inL L) (ipT T L) (knF T L) h k) = true from g)] at Z
        obtain ⟨s', z1, z2, z3⟩ := Z
        rw [z1, bI_s] at pre
        refine ⟨fun ok => ?_, fun _ => ⟨_, s', pre, z2, z3⟩⟩
        obtain ⟨k', u, w⟩ := ok a
        rw [hkd] at u
        cases u
        exact absurd w g
theorem x_68B (X : JX T N q L s) (b : bdd N s) (hh : Int32) : ∃ w, mjF (d + 4) 68 [.ref 71, .int hh] (mjW0 s) = some (some (.int w), mjW0 s) := by
  have x1 := X.1
  have pre : mjF (d + 4) 68 [.ref 71, .int hh] (mjW0 s) = _ := e_68 (d := d + 3)
  unfold f_68 b_68_0 at pre
  rw [xg_71_0, xV_58, j_is x1 b.1 (Nat.le_refl N), bI_s, i01, if_neg (show ¬ (T N).1 = 10 by rw [x1.2.2.1]; decide), xV_71, x_60B X b, bI_s] at pre
  exact ⟨_, pre⟩
/-- ownMemberNamed -/
theorem L119_S (R : mjR) (n a : Nat) (b : Int32) (e : Int64) (f g : Int32) (hp : mjH) : L_119_12 R (n + 1) a b e f g hp = b_119_12 R (L_119_12 R n) a b e f g hp := rfl
theorem lq_119 (hq : isP q) (D : RDM T N q L s) (hc : c < L.length) (h16 : L.length ≤ 16) (R : mjR) (key : Int64) : ∀ (r i m : Nat), i + r = mcL L c → r < m → (∀ j, j < i → ¬ s.2.1 (q + 15) (fmL L c + j) = key) → L_119_12 R m q (nI c) key (nI (fmL L c)) (nI (fmL L c + i)) (mjW0 s) = some (some (.int (match fnd (fun i => decide (s.2.1 (q + 15) (fmL L c + i) = key)) (mcL L c) with
    | none => -1
    | some i => nI (fmL L c + i))), mjW0 s)
  | 0, i, m + 1, e, _, hb => by
    obtain ⟨d1, d2, d3, d4, d5⟩ := D
    have b4 := d4 c hc
    rw [L119_S]
    unfold b_119_12
    rw [yg_10 hq, wya_10 hq (by omega), (d1 c hc).2, nI_add, if_pos (nI_le (by omega) (by omega)), fnd_none.mpr (fun j hj => by simpa using hb j (by omega))]
  | r + 1, i, m + 1, e, hr, hb => by
    have D0 := D
    obtain ⟨d1, d2, d3, d4, d5⟩ := D
    have b4 := d4 c hc
    rw [L119_S]
    unfold b_119_12
    rw [yg_10 hq, wya_10 hq (by omega), (d1 c hc).2, nI_add, if_neg (nI_ge (by omega) (by omega)), yg_14 hq, ymg_1 hq, wya_15 hq (by omega)]
    by_cases e : s.2.1 (q + 15) (fmL L c + i) = key
    · rw [if_pos ((lg_cmp_eq _ _).mpr e), show fnd (fun i => decide (s.2.1 (q + 15) (fmL L c + i) = key)) (mcL L c) = some i from fnd_some.mpr ⟨by omega, by simpa using e, fun j hj => by simpa using hb j hj⟩]
    · rw [if_neg (fun x => e ((lg_cmp_eq _ _).mp x)), nI_1]
      refine lq_119 hq D0 hc h16 R key r (i + 1) m (by omega) (by omega) (fun j hj => ?_)
      by_cases g : j = i
      · rw [g]; exact e
      · exact hb j (by omega)
theorem x_119 (hq : isP q) (D : RDM T N q L s) (P : PFm T N L) (hk : KY T N s) (h16 : L.length ≤ 16) (hc : c < L.length) (ht : t ≤ N) (hT : (T t).1 = 3) : mjF (d + 1) 119 [.ref q, .int (nI c), .long (s.2.1 62 t)] (mjW0 s) = some (some (.int (oI (omT T L c (kyT T t)))), mjW0 s) := by
  have D0 := D
  obtain ⟨d1, d2, d3, d4, d5⟩ := D
  have b4 := d4 c hc
  have lp := lq_119 hq D0 hc h16 (mjF d) (s.2.1 62 t) (mcL L c) 0 mjN (by omega) (by have := mjN_v; omega) (fun j hj => absurd hj (by omega))
  have ef : fnd (fun i => decide (s.2.1 (q + 15) (fmL L c + i) = s.2.1 62 t)) (mcL L c) = fnd (fun i => decide (nkM T L (fmL L c + i) = kyT T t)) (mcL L c) := by
    refine fnd_cg (fun i hi => ?_)
    have m1 := d5 (fmL L c + i) (by omega)
    have p1 := P (fmL L c + i) (by omega)
    rw [m1.2.2.2.2.1]
    exact decide_eq_decide.mpr (hk.2.2.1 _ _ (by omega) ht (Or.inr p1.2.2.1) (Or.inr hT))
  rw [e_119]
  unfold f_119 b_119_0
  rw [yg_9 hq, wya_9 hq (by omega), (d1 c hc).1]
  rw [Nat.add_zero] at lp
  rw [lp, ef]
  unfold omT
  cases fnd (fun i => decide (nkM T L (fmL L c + i) = kyT T t)) (mcL L c) <;> rfl
end MJA16
end
section
/-! ===== (d): one MEMBER ===== -/
def o74 : mjSt3 → mjSt3 → Prop := offG c58 (fun h _ => h = 74)
def oMm (q m : Nat) : mjSt3 → mjSt3 → Prop := offG (fun h j => c58 h j ∨ (h = q + 17 ∧ j = m) ∨ (h = q + 21 ∧ 6 * m ≤ j ∧ j < 6 * m + 6)) (fun h _ => h = 74)
def psM (L : List CD) (m : Nat) : List (Nat × Nat × Int32) := (mdM L m).2.2.2.1
/-- where PARAM i of MEMBER m begins -/
def posP (L : List CD) (m i : Nat) : Nat := match i with
  | 0 => (mdM L m).2.1 + 2
  | j + 1 => (match (psM L m)[j]? with
    | some p' => p'.2.1 + 2
    | none => 0)
def OKp (T : TT) (L : List CD) (tr : Bool) (m i : Nat) : Prop := ∀ (p : Nat × Nat × Int32), (psM L m)[i]? = some p → tyOK T L tr (some (hmM L m)) p.1 ∧ ∀ (j : Nat) (p' : Nat × Nat × Int32), j < i → (psM L m)[j]? = some p' → ¬ kyT T p'.2.1 = kyT T p.2.1
def OKm (T : TT) (L : List CD) (tr : Bool) (m : Nat) : Prop := tyOK T L tr (some (hmM L m)) (mdM L m).1 ∧ omT T L (hmM L m) (nkM T L m) = some m ∧ ∀ i, i < (psM L m).length → OKp T L tr m i
def pyT (T : TT) (L : List CD) (m i : Nat) : Nat := match (psM L m)[i]? with
  | some p => tyT T L (some (hmM L m)) p.1
  | none => 0
section MJA17
variable {T : TT} {d N q c t n e k u v i m : Nat} {s s' : mjSt3} {L : List CD} {h : Option Nat}
theorem o58.s74 (o : o58 s s') : o74 s s' := offG.mono o (fun _ _ h => h) (fun _ _ h => h.elim)
theorem o74.Mm (o : o74 s s') : oMm q m s s' := offG.mono o (fun _ _ h => Or.inl h) (fun _ _ h => h)
theorem oMm.J (o : oMm q m s s') : oJ q s s' := offG.mono o (fun x y z => by
  rcases z with z | z | z
  · exact Or.inl z
  · exact Or.inr (by omega)
  · exact Or.inr (by omega)) (fun _ _ z => Or.inl z)
theorem RDM.oJ (D : RDM T N q L s) (hq : isP q) (o : oJ q s s') : RDM T N q L s' := by
  have hq : q = 2 ∨ q = 30 := hq
  obtain ⟨d1, d2, d3, d4, d5⟩ := D
  have r : ∀ h, h = 68 ∨ h = 69 ∨ h = q + 9 ∨ h = q + 10 ∨ h = q + 14 ∨ h = q + 16 ∨ h = q + 18 ∨ h = q + 20 → s'.1 h = s.1 h := fun h hh => funext fun j => o.1 h j (by unfold c58; omega)
  have l : ∀ h, h = 62 ∨ h = q + 15 → s'.2.1 h = s.2.1 h := fun h hh => funext fun j => o.2.1 h j (by omega)
  refine ⟨fun c hc => ?_, ?_, d3, d4, fun m hm => ?_⟩
  · rw [r (q + 9) (by omega), r (q + 10) (by omega)]; exact d1 c hc
  · rw [r (q + 14) (by omega)]; exact d2
  · rw [r (q + 16) (by omega), r 68 (by omega), r 69 (by omega), r (q + 18) (by omega), r (q + 20) (by omega), l (q + 15) (by omega), l 62 (by omega)]; exact d5 m hm
theorem L69_S (R : mjR) (n a : Nat) (b : Int32) (e : Int64) (f : Int32) (hp : mjH) : L_69_18 R (n + 1) a b e f hp = b_69_18 R (L_69_18 R n) a b e f hp := rfl
/-- the loop over the NAMES ahead -/
theorem lq_69 {key : Int64} (hi : i ≤ 6) (hc : c ≤ N) (m0 : Nat) : ∀ (r j : Nat) (s : mjSt3), j + r = i → TH T N s → GB N s → (s.1 58 7 = 0 → fne s c) → ∃ s1, L_69_18 (mjF (d + 1)) (m0 + 1 + r) 71 (nI i) key (nI j) (mjW0 s) = L_69_18 (mjF (d + 1)) (m0 + 1) 71 (nI i) key (nI i) (mjW0 s1) ∧ o58 s s1 ∧ GB N s1 ∧ (s1.1 58 7 = 0 → fne s1 c) ∧ (s1.1 58 7 = 0 ↔ s.1 58 7 = 0 ∧ ∀ a, j ≤ a → a < i → ¬ s.2.1 74 a = key)
  | 0, j, s, e, hT, g, f => by
    refine ⟨s, ?_, offG.rf, g, f, ⟨fun h => ⟨h, fun a h1 h2 => absurd h1 (by omega)⟩, fun h => h.1⟩⟩
    rw [show j = i by omega]
  | r + 1, j, s, e, hT, g, f => by
    have pre : L_69_18 (mjF (d + 1)) (m0 + 1 + (r + 1)) 71 (nI i) key (nI j) (mjW0 s) = _ := L69_S _ (m0 + 1 + r) _ _ _ _ _
    unfold b_69_18 b_69_44 at pre
    rw [if_neg (nI_ge (by omega) (by omega)), xg_71_7, wa_74 (by omega), xg_71_0, xV_58, nI_1] at pre
    by_cases ek : s.2.1 74 j = key
    · rw [if_pos ((lg_cmp_eq _ _).mpr ek)] at pre
      have R : ∃ z, mjF (d + 1) 165 [.ref 58, .int 4] (mjW0 s) = some (none, mjW0 z) ∧ bdd N z ∧ o58 s z := by
        by_cases h7 : s.1 58 7 = 0
        · exact j_ref hT (f h7) hc (by decide)
        · exact ⟨s, j_refB hT (g.b h7), g.b h7, offG.rf⟩
      obtain ⟨z, z1, z2, z3⟩ := R
      rw [z1, bN_s] at pre
      obtain ⟨s1, a1, a2, a3, a4, a5⟩ := lq_69 hi hc m0 r (j + 1) z (by omega) (hT.o58 z3) (GB.ob z2) (fun h => absurd h z2.2)
      refine ⟨s1, pre.trans a1, z3.tr a2, a3, a4, ?_⟩
      rw [a5]
      exact ⟨fun h => absurd h.1 z2.2, fun h => absurd ek (h.2 j (by omega) (by omega))⟩
    · rw [if_neg (fun x => ek ((lg_cmp_eq _ _).mp x))] at pre
      obtain ⟨s1, a1, a2, a3, a4, a5⟩ := lq_69 hi hc m0 r (j + 1) s (by omega) hT g f
      refine ⟨s1, pre.trans a1, a2, a3, a4, ?_⟩
      rw [a5]
      constructor
      · intro ⟨x, y⟩
        refine ⟨x, fun a h1 h2 => ?_⟩
        by_cases ea : a = j
        · rw [ea]; exact ek
        · exact y a (by omega) h2
      · intro ⟨x, y⟩
        exact ⟨x, fun a h1 h2 => y a (by omega) h2⟩
/-- judgeParamName -/
theorem x_69 (hT : TH T N s) (hi : i < 6) (g : GB N s) (f : s.1 58 7 = 0 → fne s c) (hc : c + 2 ≤ N) : ∃ s', mjF (d + 2) 69 [.ref 71, .int (nI i)] (mjW0 s) = some (none, mjW0 s') ∧ o74 s s' ∧ GB N s' ∧ (s'.1 58 7 = 0 → fne s' (c + 2) ∧ ∀ j, s'.2.1 74 j = if j = i then s.2.1 62 c else s.2.1 74 j) ∧ (s'.1 58 7 = 0 ↔ s.1 58 7 = 0 ∧ ∀ a, a < i → ¬ s.2.1 74 a = s.2.1 62 c) := by
  obtain ⟨⟨cu, hcu, fcu⟩, _⟩ := id g
  obtain ⟨m0, hm0⟩ : ∃ m0, mjN = m0 + 1 + i := ⟨mjN - 1 - i, by have := mjN_v; omega⟩
  have pre : mjF (d + 2) 69 [.ref 71, .int (nI i)] (mjW0 s) = _ := e_69 (d := d + 1)
  unfold f_69 b_69_0 at pre
  rw [xg_71_0, xg_71_0, xV_58, j_now hT fcu hcu, bI_s, xV_58, j_key hT fcu hcu hcu, bL_s, hm0] at pre
  obtain ⟨s1, a1, a2, a3, a4, a5⟩ := lq_69 (d := d) (key := s.2.1 62 cu) (by omega : i ≤ 6) (show c ≤ N by omega) m0 i 0 s (by omega) hT g f
  rw [show (0 : Int32) = nI 0 from rfl, a1, L69_S] at pre
  unfold b_69_18 at pre
  rw [if_pos (Int32.le_refl _), xg_71_7, ws_74 (by omega), xg_71_0, xV_58] at pre
  obtain ⟨z, hz⟩ : ∃ z, z = uL s1 74 (vp_updL (s1.2.1 74) i (s.2.1 62 cu)) := ⟨_, rfl⟩
  have oz : o74 s1 z := by rw [hz]; exact offG.wl rfl
  have z1 : z.1 = s1.1 := by rw [hz]; rfl
  have hTz : TH T N z := by
    have h := hT.o58 a2
    exact ⟨by rw [z1]; exact h.1, h.2.1, h.2.2.1, fun k hk => by rw [z1]; exact h.2.2.2 k hk⟩
  rw [← hz] at pre
  by_cases h7 : s1.1 58 7 = 0
  · have fz : fne z c := ⟨by rw [z1]; exact (a4 h7).1, by rw [z1]; exact h7⟩
    have f1 := fz.go (c + 1)
    have hT1 : TH T N (tkGo z (c + 1)) := hTz.o58 (o58.go _ _)
    rw [j_skip hTz fz (by omega), bN_s, xg_71_0, xV_58, j_skip hT1 f1 (by omega), bN_s] at pre
    have f2 := f1.go (c + 1 + 1)
    have s0 := a5.mp h7
    have ecu : cu = c := by
      have := (f s0.1).1
      rw [fcu] at this
      exact (nI_eq (by have := hT.2.1; omega) (by have := hT.2.1; omega)).mp this
    refine ⟨_, pre, a2.s74.tr (oz.tr ((o58.go _ _).s74.tr (o58.go _ _).s74)), GB.of f2 (by omega), fun _ => ⟨f2, fun j => ?_⟩, ?_⟩
    · show z.2.1 74 j = _
      rw [hz, uL_same]
      show (if j = i then s.2.1 62 cu else s1.2.1 74 j) = _
      rw [a2.l, ecu]
    · refine ⟨fun _ => ⟨s0.1, fun a ha => by rw [← ecu]; exact s0.2 a (by omega) ha⟩, fun _ => f2.2⟩
  · have bz : bdd N z := ⟨by rw [z1]; exact a3.2 h7, by rw [z1]; exact h7⟩
    rw [j_skipB hTz bz, bN_s, xg_71_0, xV_58, j_skipB hTz bz, bN_s] at pre
    refine ⟨z, pre, a2.s74.tr oz, GB.ob bz, fun h => absurd h bz.2, ⟨fun h => absurd h bz.2, fun h => ?_⟩⟩
    exfalso
    have ecu : cu = c := by
      have := (f h.1).1
      rw [fcu] at this
      exact (nI_eq (by have := hT.2.1; omega) (by have := hT.2.1; omega)).mp this
    exact h7 (a5.mpr ⟨h.1, fun a _ ha => by rw [ecu]; exact h.2 a ha⟩)
theorem L67_S (R : mjR) (n a : Nat) (b e f : Int32) (hp : mjH) : L_67_83 R (n + 1) a b e f hp = b_67_83 R (L_67_83 R n) a b e f hp := rfl
theorem ps_at (hm : i < (psM L m).length) : ∃ p, (psM L m)[i]? = some p := ⟨_, List.getElem?_eq_getElem hm⟩
theorem PFm.pos (P : PFm T N L) (hm : m < nMem L) {p : Nat × Nat × Int32} (hp : (psM L m)[i]? = some p) : p.1 = posP L m i ∧ posP L m (i + 1) = p.2.1 + 2 := by
  obtain ⟨_, _, _, _, _, h⟩ := P m hm
  have a := (h i p hp).2.2.2.2
  refine ⟨?_, ?_⟩
  · rw [a]; rfl
  · show (match (psM L m)[i]? with
      | some p' => p'.2.1 + 2
      | none => 0) = _
    rw [hp]
/-- the loop over PARAMS -/
theorem lq_67 (P : PFm T N L) (tr : Bool) (hm : m < nMem L) : ∀ (r i n : Nat) (s : mjSt3), i + r = (psM L m).length → r < n → JX T N q L s → RDM T N q L s → s.1 71 4 = b2 tr → KNW q s (knF T L) → INP q s (inL L) (ipT T L) → GB N s → (s.1 58 7 = 0 → fne s (posP L m i)) → (s.1 58 7 = 0 → ∀ (j : Nat) (p : Nat × Nat × Int32), j < i → (psM L m)[j]? = some p → s.2.1 74 j = s.2.1 62 p.2.1 ∧ s.1 (q + 21) (6 * m + j) = tyI (pyT T L m j)) → ∃ s', L_67_83 (mjF (d + 4)) n 71 (nI (hmM L m)) (nI m) (nI i) (mjW0 s) = some (none, mjW0 s') ∧ GB N s' ∧ (s'.1 58 7 = 0 ↔ s.1 58 7 = 0 ∧ ∀ j, i ≤ j → j < (psM L m).length → OKp T L tr m j) ∧ oMm q m s s' ∧ s'.1 (q + 17) = s.1 (q + 17) ∧ (s'.1 58 7 = 0 → ∀ j, j < (psM L m).length → s'.1 (q + 21) (6 * m + j) = tyI (pyT T L m j))
  | 0, i, n + 1, s, e, _, X, D, ht, K, I, g, f, w => by
    have hq := X.2.2.2.2.1
    obtain ⟨d1, d2, d3, d4, d5⟩ := D
    have p6 := (P m hm).2.2.2.2.1
    have l6 : (psM L m).length ≤ 6 := p6
    refine ⟨s, ?_, g, ⟨fun h => ⟨h, fun a h1 h2 => absurd h1 (by omega)⟩, fun h => h.1⟩, offG.rf, rfl, fun h j hj => ?_⟩
    · rw [L67_S]
      unfold b_67_83
      rw [xg_71_3, X.2.2.2.2.2.1.2, ymg_6 hq, wya_20 hq (by omega), (d5 m hm).2.2.2.2.2.2, show (mdM L m).2.2.2.1.length = (psM L m).length from rfl, if_pos (nI_le (by omega) (by omega))]
    · obtain ⟨p, hp⟩ := ps_at hj
      exact (w h j p (by omega) hp).2
  | r + 1, i, n + 1, s, e, hr, X, D, ht, K, I, g, f, w => by
    have X0 := X
    have D0 := D
    have hq := X.2.2.2.2.1
    have hq' : q = 2 ∨ q = 30 := hq
    obtain ⟨d1, d2, d3, d4, d5⟩ := D
    have l6 : (psM L m).length ≤ 6 := (P m hm).2.2.2.2.1
    obtain ⟨p, hp⟩ := ps_at (L := L) (m := m) (i := i) (by omega)
    have pp := (P m hm).2.2.2.2.2 i p hp
    have pos := P.pos hm hp
    have pre : L_67_83 (mjF (d + 4)) (n + 1) 71 (nI (hmM L m)) (nI m) (nI i) (mjW0 s) = _ := L67_S _ _ _ _ _ _ _
    unfold b_67_83 at pre
    rw [xg_71_3, X.2.2.2.2.2.1.2, ymg_6 hq, wya_20 hq (by omega), (d5 m hm).2.2.2.2.2.2, show (mdM L m).2.2.2.1.length = (psM L m).length from rfl, if_neg (nI_ge (by omega) (by omega)), xg_71_0, xV_58] at pre
    by_cases h7 : s.1 58 7 = 0
    · have f0 : fne s p.1 := by rw [pos.1]; exact f h7
      rw [j_fine f0, bI_s, if_neg (by decide), xg_71_3, X.2.2.2.2.2.1.2, xV_71] at pre
      have Z := x_68 (d := d) (h := some (hmM L m)) X0 (fun c hc => by cases hc; exact (d5 m hm).2.1) f0 pp.1 tr ht K I
      rw [oI_s] at Z
      -- behind typeHere: the TYPE's row, then the NAME
      have rest : ∀ (w0 : Int32) (z : mjSt3), o58 s z → GB N z → (z.1 58 7 = 0 → fne z p.2.1) → (z.1 58 7 = 0 → w0 = tyI (pyT T L m i)) → (z.1 58 7 = 0 ↔ tyOK T L tr (some (hmM L m)) p.1) → L_67_83 (mjF (d + 4)) (n + 1) 71 (nI (hmM L m)) (nI m) (nI i) (mjW0 s) = rV (mjW0 z) (q + 14) 6 (bN (mjF (d + 4) 97 [.ref (q + 14), .int (nI m), .int (nI i), .int w0] (mjW0 z)) (fun hp10 => rV hp10 71 4 (bN (mjF (d + 4) 69 [.ref 71, .int (nI i)] hp10) (fun hp11 => L_67_83 (mjF (d + 4)) n 71 (nI (hmM L m)) (nI m) (nI i + 1) hp11)))) → ∃ s', L_67_83 (mjF (d + 4)) (n + 1) 71 (nI (hmM L m)) (nI m) (nI i) (mjW0 s) = some (none, mjW0 s') ∧ GB N s' ∧ (s'.1 58 7 = 0 ↔ s.1 58 7 = 0 ∧ ∀ j, i ≤ j → j < (psM L m).length → OKp T L tr m j) ∧ oMm q m s s' ∧ s'.1 (q + 17) = s.1 (q + 17) ∧ (s'.1 58 7 = 0 → ∀ j, j < (psM L m).length → s'.1 (q + 21) (6 * m + j) = tyI (pyT T L m j)) := by
        intro w0 z oz gz fz wz iz pr
        obtain ⟨y, hy⟩ : ∃ y, y = uI z (q + 21) (upd (z.1 (q + 21)) (6 * m + i) w0) := ⟨_, rfl⟩
        have e97 : mjF (d + 4) 97 [.ref (q + 14), .int (nI m), .int (nI i), .int w0] (mjW0 z) = some (none, mjW0 y) := by
          rw [e_97]
          unfold f_97 b_97_0
          rw [ymg_7 hq, show nI m * (6 : Int32) + nI i = nI (6 * m + i) by rw [show (6 : Int32) = nI 6 from rfl, nI_mul, nI_add, Nat.mul_comm], wys_21 hq (by omega), ← hy]
        have oy : oMm q m z y := by rw [hy]; exact offG.w (Or.inr (Or.inr ⟨rfl, by omega, by omega⟩))
        have osy : oMm q m s y := (oz.s74.Mm).tr oy
        have y58 : y.1 58 = z.1 58 := by rw [hy]; exact uI_ne _ _ _ _ (by omega)
        have Xy := X0.oJ osy.J
        have gy : GB N y := gz.cg y58
        have fy : y.1 58 7 = 0 → fne y p.2.1 := fun h => by
          have := fz (by rw [← y58]; exact h)
          exact ⟨by rw [y58]; exact this.1, by rw [y58]; exact this.2⟩
        obtain ⟨x, b1, b2', b3, b4, b5⟩ := x_69 (d := d + 2) (i := i) (c := p.2.1) Xy.1 (by omega) gy fy pp.2.2.2.1
        have osx : oMm q m s x := osy.tr b2'.Mm
        have ys2 : y.2 = s.2 := by rw [hy, uI_l, oz.l]
        have y21 : ∀ j, y.1 (q + 21) j = if j = 6 * m + i then w0 else s.1 (q + 21) j := by
          intro j
          rw [hy, uI_same, upd_g, oz.r (by omega)]
        have x21 : x.1 (q + 21) = y.1 (q + 21) := funext fun j => b2'.1 (q + 21) j (by unfold c58; omega)
        have ord : x.1 58 7 = 0 ↔ OKp T L tr m i := by
          rw [b5, y58, iz]
          have h74 : ∀ j p', j < i → (psM L m)[j]? = some p' → y.2.1 74 j = s.2.1 62 p'.2.1 := fun j p' hj hp' => by rw [ys2]; exact (w h7 j p' hj hp').1
          constructor
          · intro ⟨a, b⟩ p2 hp2
            rw [hp] at hp2
            cases hp2
            refine ⟨a, fun j p' hj hp' => ?_⟩
            have := b j hj
            rw [h74 j p' hj hp', ys2] at this
            have pj := (P m hm).2.2.2.2.2 j p' hp'
            exact fun e2 => this ((X0.2.1.2.2.1 _ _ (by omega) (by omega) (Or.inr pj.2.2.1) (Or.inr pp.2.2.1)).mpr e2)
          · intro ok
            have := ok p hp
            refine ⟨this.1, fun j hj => ?_⟩
            obtain ⟨p', hp'⟩ := ps_at (L := L) (m := m) (i := j) (by omega)
            have pj := (P m hm).2.2.2.2.2 j p' hp'
            rw [h74 j p' hj hp', ys2]
            exact fun e2 => this.2 j p' hj hp' ((X0.2.1.2.2.1 _ _ (by omega) (by omega) (Or.inr pj.2.2.1) (Or.inr pp.2.2.1)).mp e2)
        have hx62 : x.2.1 62 = s.2.1 62 := by rw [funext fun j => b2'.2.1 62 j (by omega), ys2]
        obtain ⟨s', c1, c2, c3, c4, c5, c6⟩ := lq_67 P tr hm r (i + 1) n x (by omega) (by omega) (X0.oJ osx.J) (D0.oJ hq osx.J) (by rw [osx.1 71 4 (by unfold c58; omega)]; exact ht) (by unfold KNW; rw [show x.1 (q + 11) = s.1 (q + 11) from funext fun j => osx.1 _ j (by unfold c58; omega)]; exact K) (by unfold INP; rw [show x.1 (q + 3) = s.1 (q + 3) from funext fun j => osx.1 _ j (by unfold c58; omega), show x.1 (q + 4) = s.1 (q + 4) from funext fun j => osx.1 _ j (by unfold c58; omega)]; exact I) b3 (fun h => by rw [pos.2]; exact (b4 h).1) (fun h j p' hj hp' => by
          have y7 : y.1 58 7 = 0 := (b5.mp h).1
          have z7 : z.1 58 7 = 0 := by rw [← y58]; exact y7
          rw [(b4 h).2 j, hx62, x21, y21]
          by_cases ej : j = i
          · subst ej
            rw [hp] at hp'
            cases hp'
            rw [if_pos rfl, if_pos rfl, ys2]
            exact ⟨rfl, wz z7⟩
          · rw [if_neg ej, if_neg (by omega), ys2]
            exact w h7 j p' (by omega) hp')
        refine ⟨s', ?_, c2, ?_, osx.tr c4, ?_, c6⟩
        · rw [pr, ymV hq, e97, bN_s, xV_71, b1, bN_s, nI_1]; exact c1
        · rw [c3, ord]
          constructor
          · intro ⟨a, b⟩
            refine ⟨h7, fun j h1 h2 => ?_⟩
            by_cases ej : j = i
            · rw [ej]; exact a
            · exact b j (by omega) h2
          · intro ⟨a, b⟩
            exact ⟨b i (by omega) (by omega), fun j h1 h2 => b j (by omega) h2⟩
        · rw [c5, show x.1 (q + 17) = y.1 (q + 17) from funext fun j => b2'.1 _ j (by unfold c58; omega), hy, uI_ne _ _ _ _ (by omega), oz.r (by omega)]
      by_cases ok : tyOK T L tr (some (hmM L m)) p.1
      · rw [Z.1 ok, bI_s] at pre
        refine rest _ _ (o58.go _ _) (GB.of (f0.go _) (pp.1.te).2) (fun _ => ?_) (fun _ => ?_) ⟨fun _ => ok, fun _ => (f0.go _).2⟩ pre
        · rw [← pp.2.1]; exact f0.go _
        · unfold pyT; rw [hp]
      · obtain ⟨w0, z, z1, z2, z3⟩ := Z.2 ok
        rw [z1, bI_s] at pre
        exact rest w0 z z3 (GB.ob z2) (fun h => absurd h z2.2) (fun h => absurd h z2.2) ⟨fun h => absurd h z2.2, fun h => absurd h ok⟩ pre
    · rw [j_fineB (g.b h7), bI_s, if_pos rfl] at pre
      exact ⟨s, pre, g, ⟨fun h => absurd h h7, fun h => absurd h.1 h7⟩, offG.rf, rfl, fun h => absurd h h7⟩
end MJA17
end
section
/-! ===== (d): all MEMBERS ===== -/
def OKd (T : TT) (L : List CD) (tr : Bool) (c : Nat) : Prop := (∀ k, abT T L c = some k → (tr || nsT T L (some c) k) = true) ∧ ∀ i, i < mcL L c → OKm T L tr (fmL L c + i)
/-- the rows of TYPES of MEMBER m -/
def TYr (T : TT) (L : List CD) (q : Nat) (s : mjSt3) (m : Nat) : Prop := s.1 (q + 17) m = tyI (tyT T L (some (hmM L m)) (mdM L m).1) ∧ ∀ j, j < (psM L m).length → s.1 (q + 21) (6 * m + j) = tyI (pyT T L m j)
section MJA18
variable {T : TT} {d N q c t n e k u v i m : Nat} {s s' : mjSt3} {L : List CD} {h : Option Nat}
theorem hm_at (hc : c < L.length) (hi : i < mcL L c) : hmM L (fmL L c + i) = c := by
  obtain ⟨D, hD⟩ : ∃ D, L[c]? = some D := ⟨_, List.getElem?_eq_getElem hc⟩
  unfold mcL at hi
  rw [hD] at hi
  obtain ⟨md, hk⟩ : ∃ md, D.2[i]? = some md := ⟨_, List.getElem?_eq_getElem hi⟩
  exact (FL_at hD hk).1
theorem KNW.off {kn : Nat → Nat → Nat → Bool} (K : KNW q s kn) (e : s'.1 (q + 11) = s.1 (q + 11)) : KNW q s' kn := by
  unfold KNW; rw [e]; exact K
theorem INP.off {iN : Nat → Nat} {ip : Nat → Nat → Nat × Nat} (K : INP q s iN ip) (e : s'.1 (q + 3) = s.1 (q + 3)) (e' : s'.1 (q + 4) = s.1 (q + 4)) : INP q s' iN ip := by
  unfold INP; rw [e, e']; exact K
theorem oMm.r (o : oMm q m s s') {h : Nat} (h1 : ¬ h = 58) (h2 : ¬ h = q + 17) (h3 : ¬ h = q + 21) : s'.1 h = s.1 h := funext fun j => o.1 h j (by unfold c58; omega)
/-- judgeMember -/
theorem x_67 (P : PFm T N L) (tr : Bool) (hm : m < nMem L) (X : JX T N q L s) (D : RDM T N q L s) (ht : s.1 71 4 = b2 tr) (K : KNW q s (knF T L)) (I : INP q s (inL L) (ipT T L)) {cu : Nat} (f : fne s cu) (hcu : cu ≤ N) : ∃ s', mjF (d + 5) 67 [.ref 71, .int (nI (hmM L m)), .int (nI m)] (mjW0 s) = some (none, mjW0 s') ∧ GB N s' ∧ (s'.1 58 7 = 0 ↔ OKm T L tr m) ∧ oMm q m s s' ∧ (s'.1 58 7 = 0 → TYr T L q s' m) := by
  have X0 := X
  have D0 := D
  have hq := X.2.2.2.2.1
  have hq' : q = 2 ∨ q = 30 := hq
  have h16 := X.2.2.1.1
  obtain ⟨d1, d2, d3, d4, d5⟩ := D
  obtain ⟨m1, m2, m3, m4, m5, m6, m7⟩ := d5 m hm
  obtain ⟨p1, p2, p3, p4, p5, p6⟩ := P m hm
  have te := p1.te
  have l6 : (psM L m).length ≤ 6 := p5
  have pre : mjF (d + 5) 67 [.ref 71, .int (nI (hmM L m)), .int (nI m)] (mjW0 s) = _ := e_67 (d := d + 4)
  unfold f_67 b_67_0 b_67_70 at pre
  rw [xg_71_0, xg_71_1, xg_64_6, wa_68 (by omega), m3, xV_58, j_go X.1 f hcu te.1, bN_s, xg_71_3] at pre
  obtain ⟨z0, hz0⟩ : ∃ z0, z0 = tkGo s (mdM L m).1 := ⟨_, rfl⟩
  have o0 : o58 s z0 := by rw [hz0]; exact o58.go _ _
  have f0 : fne z0 (mdM L m).1 := by rw [hz0]; exact f.go _
  have Xz := X0.o58 o0
  rw [← hz0, Xz.2.2.2.2.2.1.2, ymg_3 hq, xV_71] at pre
  have Z := x_68 (d := d) (h := some (hmM L m)) Xz (fun c hc => by cases hc; exact m2) f0 p1 tr (by rw [o0.r (by decide)]; exact ht) (K.o58 hq o0) (I.o58 hq o0)
  rw [oI_s] at Z
  have rest : ∀ (w0 : Int32) (z : mjSt3), o58 s z → GB N z → (z.1 58 7 = 0 → fne z (mdM L m).2.1) → (z.1 58 7 = 0 → w0 = tyI (tyT T L (some (hmM L m)) (mdM L m).1)) → (z.1 58 7 = 0 ↔ tyOK T L tr (some (hmM L m)) (mdM L m).1) → mjF (d + 4) 68 [.ref 71, .int (nI (hmM L m))] (mjW0 z0) = some (some (.int w0), mjW0 z) → ∃ s', mjF (d + 5) 67 [.ref 71, .int (nI (hmM L m)), .int (nI m)] (mjW0 s) = some (none, mjW0 s') ∧ GB N s' ∧ (s'.1 58 7 = 0 ↔ OKm T L tr m) ∧ oMm q m s s' ∧ (s'.1 58 7 = 0 → TYr T L q s' m) := by
    intro w0 z oz gz fz wz iz pr
    have pre2 := pre
    obtain ⟨y, hy⟩ : ∃ y, y = uI z (q + 17) (upd (z.1 (q + 17)) m w0) := ⟨_, rfl⟩
    have oy : oMm q m z y := by rw [hy]; exact offG.w (Or.inr (Or.inl ⟨rfl, rfl⟩))
    have osy : oMm q m s y := (oz.s74.Mm).tr oy
    have y58 : y.1 58 = z.1 58 := by rw [hy]; exact uI_ne _ _ _ _ (by omega)
    have ys2 : y.2 = s.2 := by rw [hy, uI_l, oz.l]
    have Xy := X0.oJ osy.J
    have Dy := D0.oJ hq osy.J
    have gy : GB N y := gz.cg y58
    obtain ⟨e1, e2, e3, e4, e5⟩ := id Dy
    obtain ⟨n1, n2, n3, n4, n5, n6, n7⟩ := e5 m hm
    have x119 := x_119 (d := d + 3) hq Dy P Xy.2.1 h16 n2 (t := (mdM L m).2.1) (by omega) p3
    rw [pr, bI_s, wys_17 hq (by omega), ← hy, xg_71_1, xg_64_7, wa_69 (by omega), n4, xg_71_2, Xy.2.2.2.2.2.1.1, xg_71_3, Xy.2.2.2.2.2.1.2, ymg_1 hq, wya_15 hq (by omega), n5, yV hq, x119, bI_s, xg_71_0, xV_58] at pre2
    -- behind the NAME
    have fin : ∀ z2, o58 y z2 → GB N z2 → (z2.1 58 7 = 0 ↔ tyOK T L tr (some (hmM L m)) (mdM L m).1 ∧ omT T L (hmM L m) (nkM T L m) = some m) → mjF (d + 5) 67 [.ref 71, .int (nI (hmM L m)), .int (nI m)] (mjW0 s) = bN (mjF (d + 4) 179 [.ref 58, .int (nI (mdM L m).2.1 + 2)] (mjW0 z2)) (fun hp2 => L_67_83 (mjF (d + 4)) mjN 71 (nI (hmM L m)) (nI m) 0 hp2) → ∃ s', mjF (d + 5) 67 [.ref 71, .int (nI (hmM L m)), .int (nI m)] (mjW0 s) = some (none, mjW0 s') ∧ GB N s' ∧ (s'.1 58 7 = 0 ↔ OKm T L tr m) ∧ oMm q m s s' ∧ (s'.1 58 7 = 0 → TYr T L q s' m) := by
      intro z2 o2 g2 i2 pr2
      have os2 : oMm q m s z2 := osy.tr o2.s74.Mm
      have X2 := X0.oJ os2.J
      have G : ∃ z3, mjF (d + 4) 179 [.ref 58, .int (nI (mdM L m).2.1 + 2)] (mjW0 z2) = some (none, mjW0 z3) ∧ o58 z2 z3 ∧ GB N z3 ∧ (z3.1 58 7 = 0 → fne z3 ((mdM L m).2.1 + 2)) ∧ (z3.1 58 7 = 0 ↔ z2.1 58 7 = 0) := by
        rw [show nI (mdM L m).2.1 + (2 : Int32) = nI ((mdM L m).2.1 + 2) from nI_add _ 2]
        by_cases h7 : z2.1 58 7 = 0
        · obtain ⟨c2, hc2, f2⟩ := g2.f h7
          exact ⟨_, j_go X2.1 f2 hc2 p4, o58.go _ _, GB.of (f2.go _) p4, fun _ => f2.go _, ⟨fun _ => h7, fun _ => (f2.go _).2⟩⟩
        · exact ⟨z2, j_goB (g2.b h7) _, offG.rf, g2, fun h => absurd h h7, Iff.rfl⟩
      obtain ⟨z3, g1, g3, g4, g5, g6⟩ := G
      have os3 : oMm q m s z3 := os2.tr g3.s74.Mm
      obtain ⟨s', c1, c2, c3, c4, c5, c6⟩ := lq_67 (d := d) (q := q) P tr hm (psM L m).length 0 mjN z3 (by omega) (by have := mjN_v; omega) (X0.oJ os3.J) (D0.oJ hq os3.J) (by rw [os3.r (by decide) (by omega) (by omega)]; exact ht) (K.off (os3.r (by omega) (by omega) (by omega))) (I.off (os3.r (by omega) (by omega) (by omega)) (os3.r (by omega) (by omega) (by omega))) g4 g5 (fun _ j p hj => absurd hj (by omega))
      refine ⟨s', by rw [pr2, g1, bN_s]; exact c1, c2, ?_, os3.tr c4, fun h => ⟨?_, c6 h⟩⟩
      · rw [c3, g6, i2]
        constructor
        · intro ⟨⟨a, b⟩, x⟩
          exact ⟨a, b, fun i hi => x i (by omega) hi⟩
        · intro ⟨a, b, x⟩
          exact ⟨⟨a, b⟩, fun i _ hi => x i hi⟩
      · have z7 : z.1 58 7 = 0 := iz.mpr (i2.mp (g6.mp (c3.mp h).1)).1
        rw [c5, g3.r (by omega), o2.r (by omega), hy, uI_same, upd_g, if_pos rfl]
        exact wz z7
    have y7 : y.1 58 7 = 0 ↔ tyOK T L tr (some (hmM L m)) (mdM L m).1 := by rw [y58]; exact iz
    by_cases eo : omT T L (hmM L m) (nkM T L m) = some m
    · rw [show omT T L (hmM L m) (kyT T (mdM L m).2.1) = some m from eo, oI_s, if_pos rfl] at pre2
      exact fin y offG.rf gy ⟨fun h => ⟨y7.mp h, eo⟩, fun h => y7.mpr h.1⟩ pre2
    · have ne : ¬ oI (omT T L (hmM L m) (kyT T (mdM L m).2.1)) = nI m := by
        intro x
        cases ho : omT T L (hmM L m) (kyT T (mdM L m).2.1) with
        | none => rw [ho] at x; exact absurd x.symm (nI_m1 (by omega))
        | some a =>
          have ha : a < 384 := by
            unfold omT at ho
            cases hf : fnd (fun i => decide (nkM T L (fmL L (hmM L m) + i) = kyT T (mdM L m).2.1)) (mcL L (hmM L m)) with
            | none => rw [hf] at ho; cases ho
            | some i =>
              rw [hf] at ho
              cases ho
              have := fnd_lt hf
              have := d4 _ m2
              omega
          rw [ho, oI_s] at x
          have := (nI_eq (by omega) (by omega)).mp x
          rw [this] at ho
          exact eo ho
      rw [if_neg ne, xg_71_0, xV_58] at pre2
      obtain ⟨z2, b1, b2', b3⟩ := j_atG (d := d + 3) (k := 4) (t := (mdM L m).2.1) Xy.1 gy (by omega) (by decide)
      rw [b1, bN_s, xg_71_0, xV_58] at pre2
      exact fin z2 b3 (GB.ob b2') ⟨fun h => absurd h b2'.2, fun h => absurd h.2 eo⟩ pre2
  by_cases ok : tyOK T L tr (some (hmM L m)) (mdM L m).1
  · refine rest _ _ (o0.tr (o58.go _ _)) (GB.of (f0.go _) te.2) (fun _ => ?_) (fun _ => rfl) ⟨fun _ => ok, fun _ => (f0.go _).2⟩ (Z.1 ok)
    rw [← p2]; exact f0.go _
  · obtain ⟨w0, z, z1, z2, z3⟩ := Z.2 ok
    exact rest w0 z (o0.tr z3) (GB.ob z2) (fun h => absurd h z2.2) (fun h => absurd h z2.2) ⟨fun h => absurd h z2.2, fun h => absurd h ok⟩ z1
def oMs (q : Nat) : mjSt3 → mjSt3 → Prop := offG (fun h j => c58 h j ∨ (h = q + 17 ∧ ¬ j = 384) ∨ h = q + 21) (fun h _ => h = 74)
theorem oMm.sub (hm : ¬ m = 384) (o : oMm q m s s') : oMs q s s' := offG.mono o (fun x y z => by
  rcases z with z | z | z
  · exact Or.inl z
  · exact Or.inr (Or.inl ⟨z.1, by rw [z.2]; exact hm⟩)
  · exact Or.inr (Or.inr z.1)) (fun _ _ z => z)
theorem oMs.J (o : oMs q s s') : oJ q s s' := offG.mono o (fun x y z => by
  rcases z with z | z | z
  · exact Or.inl z
  · exact Or.inr (by omega)
  · exact Or.inr (by omega)) (fun _ _ z => Or.inl z)
theorem oMs.r (o : oMs q s s') {h : Nat} (h1 : ¬ h = 58) (h2 : ¬ h = q + 17) (h3 : ¬ h = q + 21) : s'.1 h = s.1 h := funext fun j => o.1 h j (by unfold c58; omega)
theorem L66_S (R : mjR) (n a : Nat) (b : Int32) (hp : mjH) : L_66_2 R (n + 1) a b hp = b_66_2 R (L_66_2 R n) a b hp := rfl
theorem L66b_S (R : mjR) (k2 : Nat → Int32 → mjH → mjU) (n a : Nat) (b e f : Int32) (hp : mjH) : L_66_89 R k2 (n + 1) a b e f hp = b_66_89 R k2 (L_66_89 R k2 n) a b e f hp := rfl
theorem lq_66b (P : PFm T N L) (tr : Bool) (k2 : Nat → Int32 → mjH → mjU) (hc : c < L.length) : ∀ (r i n : Nat) (s : mjSt3), i + r = mcL L c → r < n → JX T N q L s → RDM T N q L s → s.1 71 4 = b2 tr → KNW q s (knF T L) → INP q s (inL L) (ipT T L) → GB N s → (s.1 58 7 = 0 → ∀ m, m < fmL L c + i → TYr T L q s m) → ∃ s', L_66_89 (mjF (d + 5)) k2 n 71 (nI c) (nI (fmL L c)) (nI (fmL L c + i)) (mjW0 s) = k2 71 (nI (c + 1)) (mjW0 s') ∧ GB N s' ∧ (s'.1 58 7 = 0 ↔ s.1 58 7 = 0 ∧ ∀ j, i ≤ j → j < mcL L c → OKm T L tr (fmL L c + j)) ∧ oMs q s s' ∧ (s'.1 58 7 = 0 → ∀ m, m < fmL L c + mcL L c → TYr T L q s' m)
  | 0, i, n + 1, s, e, _, X, D, ht, K, I, g, w => by
    have hq := X.2.2.2.2.1
    have h16 := X.2.2.1.1
    obtain ⟨d1, d2, d3, d4, d5⟩ := D
    have b4 := d4 c hc
    refine ⟨s, ?_, g, ⟨fun h => ⟨h, fun a h1 h2 => absurd h1 (by omega)⟩, fun h => h.1⟩, offG.rf, fun h m hm => w h m (by omega)⟩
    rw [L66b_S]
    unfold b_66_89 b_66_128
    rw [xg_71_2, X.2.2.2.2.2.1.1, yg_10 hq, wya_10 hq (by omega), (d1 c hc).2, nI_add, if_pos (nI_le (by omega) (by omega)), nI_1]
  | r + 1, i, n + 1, s, e, hr, X, D, ht, K, I, g, w => by
    have hq := X.2.2.2.2.1
    have hq' : q = 2 ∨ q = 30 := hq
    have h16 := X.2.2.1.1
    have D0 := D
    obtain ⟨d1, d2, d3, d4, d5⟩ := D
    have b4 := d4 c hc
    have hma := hm_at (L := L) hc (show i < mcL L c by omega)
    have pre : L_66_89 (mjF (d + 5)) k2 (n + 1) 71 (nI c) (nI (fmL L c)) (nI (fmL L c + i)) (mjW0 s) = _ := L66b_S _ _ _ _ _ _ _ _
    unfold b_66_89 b_66_128 at pre
    rw [xg_71_2, X.2.2.2.2.2.1.1, yg_10 hq, wya_10 hq (by omega), (d1 c hc).2, nI_add, if_neg (nI_ge (by omega) (by omega)), xg_71_0, xV_58] at pre
    by_cases h7 : s.1 58 7 = 0
    · obtain ⟨cu, hcu, f⟩ := g.f h7
      obtain ⟨z, a1, a2, a3, a4, a5⟩ := x_67 (d := d) P tr (m := fmL L c + i) (by omega) X D0 ht K I f hcu
      rw [hma] at a1
      rw [j_fine f, bI_s, if_neg (by decide), xV_71, a1, bN_s, nI_1] at pre
      obtain ⟨s', b1, b2', b3, b5, b6⟩ := lq_66b P tr k2 hc r (i + 1) n z (by omega) (by omega) (X.oJ a4.J) (D0.oJ hq a4.J) (by rw [a4.r (by decide) (by omega) (by omega)]; exact ht) (K.off (a4.r (by omega) (by omega) (by omega))) (I.off (a4.r (by omega) (by omega) (by omega)) (a4.r (by omega) (by omega) (by omega))) a2 (fun h m hm => by
        by_cases em : m = fmL L c + i
        · rw [em]; exact a5 h
        · have w0 := w h7 m (by omega)
          have l6 : (psM L m).length ≤ 6 := (P m (by omega)).2.2.2.2.1
          refine ⟨by rw [a4.1 (q + 17) m (by unfold c58; omega)]; exact w0.1, fun j hj => ?_⟩
          rw [a4.1 (q + 21) _ (by unfold c58; omega)]; exact w0.2 j hj)
      refine ⟨s', pre.trans b1, b2', ?_, (oMm.sub (show ¬ fmL L c + i = 384 by omega) a4).tr b5, b6⟩
      rw [b3, a3]
      constructor
      · intro ⟨x, y⟩
        refine ⟨h7, fun j h1 h2 => ?_⟩
        by_cases ej : j = i
        · rw [ej]; exact x
        · exact y j (by omega) h2
      · intro ⟨x, y⟩
        exact ⟨y i (by omega) (by omega), fun j h1 h2 => y j (by omega) h2⟩
    · rw [j_fineB (g.b h7), bI_s, if_pos rfl, nI_1] at pre
      exact ⟨s, pre, g, ⟨fun h => absurd h h7, fun h => absurd h.1 h7⟩, offG.rf, fun h => absurd h h7⟩
theorem fm_S (hc : c < L.length) : fmL L (c + 1) = fmL L c + mcL L c := by
  obtain ⟨D, hD⟩ : ∃ D, L[c]? = some D := ⟨_, List.getElem?_eq_getElem hc⟩
  unfold fmL mcL
  rw [hD, List.take_succ, hD]
  show nMem (L.take c ++ [D]) = _
  rw [nMem_app]
theorem lq_66 (P : PFm T N L) (Pi : PFi T N L) (tr : Bool) : ∀ (r c n : Nat) (s : mjSt3), c + r = L.length → r < n → JX T N q L s → RDR L s → ABK T L q s → RDM T N q L s → s.1 71 4 = b2 tr → KNW q s (knF T L) → INP q s (inL L) (ipT T L) → GB N s → (s.1 58 7 = 0 → ∀ m, m < fmL L c → TYr T L q s m) → ∃ s', L_66_2 (mjF (d + 5)) n 71 (nI c) (mjW0 s) = some (none, mjW0 s') ∧ GB N s' ∧ (s'.1 58 7 = 0 ↔ s.1 58 7 = 0 ∧ ∀ j, c ≤ j → j < L.length → OKd T L tr j) ∧ oMs q s s' ∧ (s'.1 58 7 = 0 → ∀ m, m < nMem L → TYr T L q s' m)
  | 0, c, n + 1, s, e, _, X, Rr, A, D, ht, K, I, g, w => by
    have hq := X.2.2.2.2.1
    have h16 := X.2.2.1.1
    refine ⟨s, ?_, g, ⟨fun h => ⟨h, fun a h1 h2 => absurd h1 (by omega)⟩, fun h => h.1⟩, offG.rf, fun h m hm => w h m ?_⟩
    · rw [L66_S]
      unfold b_66_2
      rw [xg_71_2, X.2.2.2.2.2.1.1, yg_0 hq, X.2.2.2.2.2.2.2, if_pos (nI_le (by omega) (by omega))]
    · unfold fmL
      rw [show c = L.length by omega, List.take_length]
      exact hm
  | r + 1, c, n + 1, s, e, hr, X, Rr, A, D, ht, K, I, g, w => by
    have hq := X.2.2.2.2.1
    have hq' : q = 2 ∨ q = 30 := hq
    have hn := X.2.2.1
    have h16 := hn.1
    have hc : c < L.length := by omega
    have b4 := D.2.2.2.1 c hc
    have pre : L_66_2 (mjF (d + 5)) (n + 1) 71 (nI c) (mjW0 s) = _ := L66_S _ _ _ _ _
    unfold b_66_2 at pre
    rw [xg_71_2, X.2.2.2.2.2.1.1, yg_0 hq, X.2.2.2.2.2.2.2, if_neg (nI_ge (by omega) (by omega)), xg_71_0, xV_58] at pre
    by_cases h7 : s.1 58 7 = 0
    · obtain ⟨cu, hcu, f⟩ := g.f h7
      rw [j_fine f, bI_s, if_neg (by decide), xg_71_2, X.2.2.2.2.2.1.1, yg_5 hq, wya_5 hq (by omega), A c (by omega), if_pos hc] at pre
      have rest : ∀ z, o58 s z → GB N z → (z.1 58 7 = 0 ↔ ∀ k, abT T L c = some k → (tr || nsT T L (some c) k) = true) → L_66_2 (mjF (d + 5)) (n + 1) 71 (nI c) (mjW0 s) = b_66_76 (mjF (d + 5)) (L_66_2 (mjF (d + 5)) n) 71 (nI c) (mjW0 z) → ∃ s', L_66_2 (mjF (d + 5)) (n + 1) 71 (nI c) (mjW0 s) = some (none, mjW0 s') ∧ GB N s' ∧ (s'.1 58 7 = 0 ↔ s.1 58 7 = 0 ∧ ∀ j, c ≤ j → j < L.length → OKd T L tr j) ∧ oMs q s s' ∧ (s'.1 58 7 = 0 → ∀ m, m < nMem L → TYr T L q s' m) := by
        intro z oz gz iz pr
        have ozs : oMs q s z := offG.mono oz (fun _ _ h => Or.inl h) (fun _ _ h => h.elim)
        have Xz := X.o58 oz
        have Dz := D.oJ hq ozs.J
        unfold b_66_76 at pr
        rw [xg_71_2, Xz.2.2.2.2.2.1.1, yg_9 hq, wya_9 hq (by omega), (Dz.1 c hc).1] at pr
        obtain ⟨y, a1, a2, a3, a4, a5⟩ := lq_66b (d := d) P tr (L_66_2 (mjF (d + 5)) n) hc (mcL L c) 0 mjN z (by omega) (by have := mjN_v; omega) Xz Dz (by rw [oz.r (by decide)]; exact ht) (K.o58 hq oz) (I.o58 hq oz) gz (fun _ m hm => by
          have w0 := w h7 m (by omega)
          unfold TYr
          rw [oz.r (by omega), oz.r (by omega)]
          exact w0)
        rw [show fmL L c + 0 = fmL L c from rfl] at a1
        rw [a1] at pr
        have oy : oMs q s y := ozs.tr a4
        obtain ⟨s', b1, b2', b3, b5, b6⟩ := lq_66 P Pi tr r (c + 1) n y (by omega) (by omega) (X.oJ oy.J) (Rr.oJ hq oy.J) (by unfold ABK; rw [oy.r (by omega) (by omega) (by omega)]; exact A) (D.oJ hq oy.J) (by rw [oy.r (by decide) (by omega) (by omega)]; exact ht) (K.off (oy.r (by omega) (by omega) (by omega))) (I.off (oy.r (by omega) (by omega) (by omega)) (oy.r (by omega) (by omega) (by omega))) a2 (fun h m hm => a5 h m (by rw [← fm_S hc]; exact hm))
        refine ⟨s', pr.trans b1, b2', ?_, oy.tr b5, b6⟩
        rw [b3, a3, iz]
        constructor
        · intro ⟨⟨x, y⟩, v⟩
          refine ⟨h7, fun j h1 h2 => ?_⟩
          by_cases ej : j = c
          · rw [ej]; exact ⟨x, fun i hi => y i (by omega) hi⟩
          · exact v j (by omega) h2
        · intro ⟨x, y⟩
          exact ⟨⟨(y c (by omega) hc).1, fun i _ hi => (y c (by omega) hc).2 i hi⟩, fun j h1 h2 => y j (by omega) h2⟩
      cases hab : abT T L c with
      | none =>
        rw [hab, oI_n, if_pos (by decide)] at pre
        exact rest s offG.rf g ⟨fun _ k hk => (by rw [hab] at hk; cases hk), fun _ => h7⟩ pre
      | some k =>
        have vk := ab_v hn hc hab
        have kl := vk.lt hn
        rw [hab, oI_s, if_neg (nI_pos (by omega)), xg_71_4, ht, b2_i] at pre
        cases tr with
        | true =>
          rw [if_pos rfl] at pre
          exact rest s offG.rf g ⟨fun _ k hk => rfl, fun _ => h7⟩ pre
        | false =>
          rw [if_neg (by decide), xg_71_2, X.2.2.2.2.2.1.1, yV hq, show nI c = oI (some c) from rfl, x_nested (h := some c) hq X.2.2.2.2.2.2.1 K I (fun c' hc' => by cases hc'; omega) (by omega) (by have := vk.cl hn; omega) (vK.n5 hn (vk.cl hn)).1 (vk.ow hn), bI_s, b2_i, oI_s] at pre
          by_cases hb : nsT T L (some c) k = true
          · rw [if_pos (show nst (nmL L) (inL L) (ipT T L) (knF T L) (some c) k = true from hb)] at pre
            exact rest s offG.rf g ⟨fun _ k' hk' => (by rw [hab] at hk'; cases hk'; exact hb), fun _ => h7⟩ pre
          · rw [if_neg (show ¬ nst (nmL L) (inL L) (ipT T L) (knF T L) (some c) k = true from hb), xg_71_0, xg_71_1, xg_64_4, wa_66 (by omega), (Rr c hc).2.1, xV_58] at pre
            have hz : ¬ (hC L c).2.2.1 = 0 := by
              intro hz
              unfold abT at hab
              rw [if_pos hz] at hab
              cases hab
            have kd := ((Pi c hc).1 hz).2.2.2.1
            rw [if_neg hz, show nI ((hC L c).2.2.1 - 1) + 1 = nI (hC L c).2.2.1 by rw [nI_1, show (hC L c).2.2.1 - 1 + 1 = (hC L c).2.2.1 by omega]] at pre
            obtain ⟨z, b1, b2', b3⟩ := j_atG (d := d + 4) (k := 8) (t := (hC L c).2.2.1) X.1 g (by omega) (by decide)
            rw [b1, bN_s] at pre
            exact rest z b3 (GB.ob b2') ⟨fun h => absurd h b2'.2, fun h => absurd (h k hab) (by simpa using hb)⟩ pre
    · rw [j_fineB (g.b h7), bI_s, if_pos rfl] at pre
      exact ⟨s, pre, g, ⟨fun h => absurd h h7, fun h => absurd h.1 h7⟩, offG.rf, fun h => absurd h h7⟩
/-- judgeMembers -/
theorem x_66 (P : PFm T N L) (Pi : PFi T N L) {tr : Bool} (X : JX T N q L s) (Rr : RDR L s) (A : ABK T L q s) (D : RDM T N q L s) (ht : s.1 71 4 = b2 tr) (K : KNW q s (knF T L)) (I : INP q s (inL L) (ipT T L)) (g : GB N s) : ∃ s', mjF (d + 6) 66 [.ref 71] (mjW0 s) = some (none, mjW0 s') ∧ GB N s' ∧ (s'.1 58 7 = 0 ↔ s.1 58 7 = 0 ∧ ∀ j, j < L.length → OKd T L tr j) ∧ oMs q s s' ∧ (s'.1 58 7 = 0 → ∀ m, m < nMem L → TYr T L q s' m) := by
  obtain ⟨s', a1, a2, a3, a4⟩ := lq_66 (d := d) P Pi tr L.length 0 mjN s (by omega) (by have := X.2.2.1.1; have := mjN_v; omega) X Rr A D ht K I g (fun _ m hm => absurd hm (by unfold fmL nMem; simp))
  refine ⟨s', ?_, a2, ?_, a4⟩
  · rw [e_66]
    unfold f_66 b_66_0
    exact a1
  · rw [a3]
    exact ⟨fun ⟨u, v⟩ => ⟨u, fun j hj => v j (by omega) hj⟩, fun ⟨u, v⟩ => ⟨u, fun j _ hj => v j hj⟩⟩
end MJA18
end
section
/-! ===== (e): what is from above ===== -/
/-- a TYPE in which the NAMES stand for a KIND's OWNERS -/
def sty (nm : Nat → Nat) (t v : Nat) : Nat := match t with
  | k + 2 => stand nm k v + 2
  | t => t
def vT (L : List CD) (t : Nat) : Prop := t = 0 ∨ ∃ k, t = k + 2 ∧ vK L k
/-- the TYPE of MEMBER m -/
def tyM (T : TT) (L : List CD) (m : Nat) : Nat := tyT T L (some (hmM L m)) (mdM L m).1
def mSM (L : List CD) (m : Nat) : Bool := (mdM L m).2.2.1
/-- MEMBER m has the TYPES of o, seen with the OWNERS v -/
def samV (T : TT) (L : List CD) (m o v : Nat) : Prop := tyM T L m = sty (nmL L) (tyM T L o) v ∧ (psM L m).length = (psM L o).length ∧ ∀ i, i < (psM L m).length → pyT T L m i = sty (nmL L) (pyT T L o i) v
def samM (T : TT) (L : List CD) (m o : Nat) : Prop := ∀ v, vwT (nmL L) (abT T L) (hmM L m) (hmM L o) = some v → samV T L m o v
def anc (up : Nat → Option Nat) : Nat → Option Nat → List Nat
  | 0, _ => []
  | _ + 1, none => []
  | k + 1, some a => a :: anc up k (up a)
/-- the CLASSES above MEMBER m's own -/
def ancM (T : TT) (L : List CD) (m : Nat) : List Nat := anc (upT T L) 16 (upT T L (hmM L m))
def nearM (T : TT) (L : List CD) (m : Nat) : Option Nat := (ancM T L m).findSome? (fun a => omT T L a (nkM T L m))
def OKe (T : TT) (L : List CD) (m : Nat) : Prop := (∀ a, a ∈ ancM T L m → ∀ o, omT T L a (nkM T L m) = some o → mSM L m = true ∧ mSM L o = true) ∧ ∀ o, nearM T L m = some o → samM T L m o
section MJA19
variable {T : TT} {d N q c t n e k u v i m o : Nat} {s s' : mjSt3} {L : List CD} {h : Option Nat}
theorem ty_v (hn : HN T N L) (hh : ∀ c, h = some c → c < L.length) : vT L (tyT T L h t) := by
  unfold tyT
  by_cases g : (T t).1 = 10
  · rw [if_pos g]; exact Or.inl rfl
  · rw [if_neg g]
    cases hk : kdT T L h false t with
    | none => exact Or.inl rfl
    | some k =>
      obtain ⟨_, _, _, _, _, _, v⟩ := kd_v hn hh hk
      exact Or.inr ⟨k, rfl, v⟩
theorem vT.lt (hn : HN T N L) (v : vT L t) : t < 524290 := by
  rcases v with v | ⟨k, v, w⟩
  · omega
  · have := w.lt hn; omega
theorem py_v (hn : HN T N L) (hm : hmM L m < L.length) : vT L (pyT T L m i) := by
  unfold pyT
  cases (psM L m)[i]? with
  | none => exact Or.inl rfl
  | some p => exact ty_v hn (fun c hc => by cases hc; exact hm)
theorem vT.sty (hn : HN T N L) (ht : vT L t) (hv : vK L v) : vT L (sty (nmL L) t v) := by
  rcases ht with e | ⟨k, e, w⟩
  · rw [e]; exact Or.inl rfl
  · rw [e]; exact Or.inr ⟨_, rfl, vK.stand hn w hv⟩
theorem x_sty (hn : HN T N L) (hq : isP q) (hm : pnm q s (nmL L)) (ht : vT L t) (hv : vK L v) : mjF (d + 2) 112 [.ref q, .int (tyI t), .int (nI v)] (mjW0 s) = some (some (.int (tyI (sty (nmL L) t v))), mjW0 s) := by
  have h16 := hn.1
  rcases ht with e | ⟨k, e, w⟩
  · rw [e]
    exact x_standN (by decide)
  · rw [e]
    have kl := w.lt hn
    have vl := hv.lt hn
    exact x_stand hq hm (by omega) (by omega) (by have := w.cl hn; omega)
theorem x_98 (hq : isP q) (hm : m < 385) (hi : i < 6) : mjF (d + 1) 98 [.ref (q + 14), .int (nI m), .int (nI i)] (mjW0 s) = some (some (.int (s.1 (q + 21) (6 * m + i))), mjW0 s) := by
  rw [e_98]
  unfold f_98 b_98_0
  rw [ymg_7 hq, show nI m * (6 : Int32) + nI i = nI (6 * m + i) by rw [show (6 : Int32) = nI 6 from rfl, nI_mul, nI_add, Nat.mul_comm], wya_21 hq (by omega)]
theorem L71j_S (R : mjR) (n a : Nat) (b e f g i : Int32) (hp : mjH) : L_71_86 R (n + 1) a b e f g i hp = b_71_86 R (L_71_86 R n) a b e f g i hp := rfl
theorem lq_71jz (R : mjR) (n : Nat) (a b e f : Int32) (hp : mjH) : L_71_86 R (n + 1) 71 a b e 0 f hp = some (some (.int (b2 false)), hp) := by
  rw [L71j_S]
  unfold b_71_86 b_71_149
  rw [if_pos rfl, if_pos (by decide)]
  rfl
theorem lq_71j (X : JX T N q L s) (D : RDM T N q L s) (P : PFm T N L) (hm : m < nMem L) (ho : o < nMem L) (Ym : TYr T L q s m) (Yo : TYr T L q s o) (hv : vK L v) (hl : (psM L m).length = (psM L o).length) : ∀ (r i n : Nat), i + r = (psM L m).length → r + 1 < n → (∀ j, j < i → pyT T L m j = sty (nmL L) (pyT T L o j) v) → ∃ b : Bool, L_71_86 (mjF (d + 3)) n 71 (nI m) (nI o) (nI v) 1 (nI i) (mjW0 s) = some (some (.int (b2 b)), mjW0 s) ∧ (b = true ↔ ∀ j, j < (psM L m).length → pyT T L m j = sty (nmL L) (pyT T L o j) v)
  | 0, i, n + 1, e, _, w => by
    have hq := X.2.2.2.2.1
    obtain ⟨d1, d2, d3, d4, d5⟩ := D
    have l6 : (psM L m).length ≤ 6 := (P m hm).2.2.2.2.1
    refine ⟨true, ?_, fun _ j hj => w j (by omega), fun _ => rfl⟩
    rw [L71j_S]
    unfold b_71_86 b_71_149
    rw [if_neg (by decide), xg_71_3, X.2.2.2.2.2.1.2, ymg_6 hq, wya_20 hq (by omega), (d5 m hm).2.2.2.2.2.2, show (mdM L m).2.2.2.1.length = (psM L m).length from rfl, if_pos (nI_le (by omega) (by omega)), if_pos (by decide)]
    rfl
  | r + 1, i, n + 1, e, hr, w => by
    have hq := X.2.2.2.2.1
    have hn := X.2.2.1
    have D0 := D
    obtain ⟨d1, d2, d3, d4, d5⟩ := D
    have l6 : (psM L m).length ≤ 6 := (P m hm).2.2.2.2.1
    have vm := py_v (T := T) (i := i) hn (d5 m hm).2.1
    have vo := py_v (T := T) (i := i) hn (d5 o ho).2.1
    have vs := vo.sty hn hv
    have pre : L_71_86 (mjF (d + 3)) (n + 1) 71 (nI m) (nI o) (nI v) 1 (nI i) (mjW0 s) = _ := L71j_S _ _ _ _ _ _ _ _ _
    unfold b_71_86 b_71_141 at pre
    rw [if_neg (by decide), xg_71_3, X.2.2.2.2.2.1.2, ymg_6 hq, wya_20 hq (by omega), (d5 m hm).2.2.2.2.2.2, show (mdM L m).2.2.2.1.length = (psM L m).length from rfl, if_neg (nI_ge (by omega) (by omega)), xg_71_3, X.2.2.2.2.2.1.2, ymV hq, x_98 hq (by omega) (by omega), bI_s, xg_71_2, X.2.2.2.2.2.1.1, xg_71_3, X.2.2.2.2.2.1.2, ymV hq, x_98 hq (by omega) (by omega), bI_s, yV hq, Ym.2 i (by omega), Yo.2 i (by omega), x_sty hn hq X.2.2.2.2.2.2.1 vo hv, bI_s, nI_1] at pre
    by_cases g : pyT T L m i = sty (nmL L) (pyT T L o i) v
    · rw [if_pos (by rw [g])] at pre
      obtain ⟨b, b1, b2'⟩ := lq_71j X D0 P hm ho Ym Yo hv hl r (i + 1) n (by omega) (by omega) (fun j hj => by
        by_cases ej : j = i
        · rw [ej]; exact g
        · exact w j (by omega))
      exact ⟨b, pre.trans b1, b2'⟩
    · rw [if_neg (fun x => g ((tyI_eq (vm.lt hn) (vs.lt hn)).mp x))] at pre
      obtain ⟨n', rfl⟩ : ∃ n', n = n' + 1 := ⟨n - 1, by omega⟩
      rw [lq_71jz] at pre
      exact ⟨false, pre, fun h => (by cases h), fun h => absurd (h i (by omega)) g⟩
/-- isSame -/
theorem x_71 (X : JX T N q L s) (D : RDM T N q L s) (P : PFm T N L) (V : VWS T L q s) (hm : m < nMem L) (ho : o < nMem L) (Ym : TYr T L q s m) (Yo : TYr T L q s o) (hv : vwT (nmL L) (abT T L) (hmM L m) (hmM L o) = some v) : ∃ b : Bool, mjF (d + 4) 71 [.ref 71, .int (nI m), .int (nI o)] (mjW0 s) = some (some (.int (b2 b)), mjW0 s) ∧ (b = true ↔ samV T L m o v) := by
  have hq := X.2.2.2.2.1
  have hn := X.2.2.1
  have h16 := hn.1
  have D0 := D
  obtain ⟨d1, d2, d3, d4, d5⟩ := D
  have l6 : (psM L m).length ≤ 6 := (P m hm).2.2.2.2.1
  have l6o : (psM L o).length ≤ 6 := (P o ho).2.2.2.2.1
  have hmc := (d5 m hm).2.1
  have hoc := (d5 o ho).2.1
  have vv := (vw_v hn hmc hv).1
  have tm : vT L (tyM T L m) := ty_v hn (fun c hc => by cases hc; exact hmc)
  have to_ : vT L (tyM T L o) := ty_v hn (fun c hc => by cases hc; exact hoc)
  have ts := to_.sty hn vv
  have ym : s.1 (q + 17) m = tyI (tyM T L m) := Ym.1
  have yo : s.1 (q + 17) o = tyI (tyM T L o) := Yo.1
  have pre : mjF (d + 4) 71 [.ref 71, .int (nI m), .int (nI o)] (mjW0 s) = _ := e_71 (d := d + 3)
  unfold f_71 b_71_0 b_71_80 b_71_81 at pre
  rw [xg_71_2, X.2.2.2.2.2.1.1, xg_71_3, X.2.2.2.2.2.1.2, ymg_2 hq, wya_16 hq (by omega), (d5 m hm).1, xg_71_3, X.2.2.2.2.2.1.2, ymg_2 hq, wya_16 hq (by omega), (d5 o ho).1, yV hq, x_view hq (by omega) (by omega), bI_s, V _ (by omega) _ (by omega), if_pos hmc, hv, oI_s, xg_71_3, X.2.2.2.2.2.1.2, ymg_3 hq, wya_17 hq (by omega), ym, xg_71_2, X.2.2.2.2.2.1.1, xg_71_3, X.2.2.2.2.2.1.2, ymg_3 hq, wya_17 hq (by omega), yo, yV hq, x_sty hn hq X.2.2.2.2.2.2.1 to_ vv, bI_s] at pre
  by_cases g : tyM T L m = sty (nmL L) (tyM T L o) v
  · rw [if_pos (show tyI (tyM T L m) = tyI (sty (nmL L) (tyM T L o) v) from congrArg tyI g), xg_71_3, X.2.2.2.2.2.1.2, ymg_6 hq, wya_20 hq (by omega), (d5 m hm).2.2.2.2.2.2, xg_71_3, X.2.2.2.2.2.1.2, ymg_6 hq, wya_20 hq (by omega), (d5 o ho).2.2.2.2.2.2] at pre
    by_cases hl : (psM L m).length = (psM L o).length
    · rw [if_pos (show nI (mdM L m).2.2.2.1.length = nI (mdM L o).2.2.2.1.length from congrArg nI hl)] at pre
      obtain ⟨b, b1, b2'⟩ := lq_71j (d := d) X D0 P hm ho Ym Yo vv hl (psM L m).length 0 mjN (by omega) (by have := mjN_v; omega) (fun j hj => absurd hj (by omega))
      refine ⟨b, pre.trans b1, ?_⟩
      rw [b2']
      exact ⟨fun h => ⟨g, hl, h⟩, fun h => h.2.2⟩
    · rw [if_neg (show ¬ nI (mdM L m).2.2.2.1.length = nI (mdM L o).2.2.2.1.length from fun x => hl ((nI_eq (a := (psM L m).length) (b := (psM L o).length) (by omega) (by omega)).mp x)), show mjN = 99999999 + 1 from rfl, lq_71jz] at pre
      exact ⟨false, pre, fun h => (by cases h), fun h => absurd h.2.1 hl⟩
  · rw [if_neg (show ¬ tyI (tyM T L m) = tyI (sty (nmL L) (tyM T L o) v) from fun x => g ((tyI_eq (tm.lt hn) (ts.lt hn)).mp x)), show mjN = 99999999 + 1 from rfl, lq_71jz] at pre
    exact ⟨false, pre, fun h => (by cases h), fun h => absurd h.1 g⟩
theorem om_v (D : RDM T N q L s) (hc : c < L.length) {K : Int64} (h : omT T L c K = some o) : o < nMem L ∧ hmM L o = c ∧ nkM T L o = K := by
  unfold omT at h
  cases hf : fnd (fun i => decide (nkM T L (fmL L c + i) = K)) (mcL L c) with
  | none => rw [hf] at h; cases h
  | some i =>
    rw [hf] at h
    cases h
    obtain ⟨a, b, _⟩ := fnd_some.mp hf
    have := D.2.2.2.1 c hc
    exact ⟨by omega, hm_at hc a, by simpa using b⟩
end MJA19
end
section
/-! ===== (e): judgeOvers ===== -/
section MJA20
variable {T : TT} {d N q c t n e k u v i m o : Nat} {s s' : mjSt3} {L : List CD} {h : Option Nat}
theorem chn_ex (hn : HN T N L) (hc : c < L.length) : ∀ (k a : Nat), upI (upT T L) k c = some a → ∃ v, chn (nmL L) (abT T L) c k = some v ∧ cK v = a
  | 0, a, h => by cases h; exact ⟨_, rfl, own_c hn hc⟩
  | k + 1, a, h => by
    rw [upI_S] at h
    cases e : upI (upT T L) k c with
    | none => rw [e] at h; cases h
    | some b =>
      rw [e] at h
      dsimp only at h
      obtain ⟨w, w1, w2⟩ := chn_ex hn hc k b e
      unfold upT at h
      cases e2 : abT T L b with
      | none => rw [e2] at h; cases h
      | some u =>
        rw [e2] at h
        cases h
        refine ⟨stand (nmL L) u w, ?_, stand_c hn (ab_v hn ?_ e2)⟩
        · show (match chn (nmL L) (abT T L) c k with
            | none => none
            | some v => match abT T L (cK v) with
              | none => none
              | some u => some (stand (nmL L) u v)) = _
          rw [w1]
          dsimp only
          rw [w2, e2]
        · rw [← w2]; exact (chn_v hn hc k w w1).cl hn
theorem vw_of {nm : Nat → Nat} {ab : Nat → Option Nat} : ∀ {n k v : Nat}, chn nm ab c k = some v → k < n → ∃ w, vwk nm ab c (cK v) n = some w
  | 0, k, v, _, h => by omega
  | n + 1, k, v, h, hk => by
    rw [vwk_S]
    cases e : vwk nm ab c (cK v) n with
    | some w => exact ⟨w, rfl⟩
    | none =>
      by_cases g : k = n
      · subst g
        dsimp only
        rw [h]
        dsimp only
        rw [if_pos rfl]
        exact ⟨v, rfl⟩
      · obtain ⟨w, hw⟩ := vw_of (n := n) h (by omega)
        rw [e] at hw
        cases hw
theorem upI_none {up : Nat → Option Nat} (h : upI up k c = none) : ∀ j, upI up (k + j) c = none := by
  intro j
  rw [upI_add, h]
theorem up_end (A : ACY T N L) (hc : c < L.length) (h : upI (upT T L) k c = some n) : k < 16 := by
  have e := upI_end A.1.1 (fun a b ha hb => up_lt A.1 ha hb) A.2 hc
  by_cases g : k < 16
  · exact g
  · have := upI_none e (k - L.length)
    have h16 := A.1.1
    rw [show L.length + (k - L.length) = k by omega, h] at this
    cases this
theorem anc_at {up : Nat → Option Nat} {a : Nat} : ∀ {f : Nat} {x : Option Nat}, a ∈ anc up f x → ∃ b j, x = some b ∧ upI up j b = some a ∧ j < f
  | 0, x, h => by cases h
  | f + 1, none, h => by cases h
  | f + 1, some b, h => by
    have h' : a ∈ b :: anc up f (up b) := h
    rcases List.mem_cons.mp h' with e | e
    · exact ⟨b, 0, rfl, by rw [e]; rfl, by omega⟩
    · obtain ⟨b', j, e1, e2, e3⟩ := anc_at e
      refine ⟨b, j + 1, rfl, ?_, by omega⟩
      show (match up b with
        | none => none
        | some b => upI up j b) = _
      rw [e1]
      exact e2
/-- of a CLASS above there is a view -/
theorem vw_anc (A : ACY T N L) (hc : c < L.length) {a f : Nat} (h : a ∈ anc (upT T L) f (upT T L c)) : a < L.length ∧ ∃ v, vwT (nmL L) (abT T L) c a = some v := by
  obtain ⟨b, j, e1, e2, e3⟩ := anc_at h
  have eu : upI (upT T L) (j + 1) c = some a := by
    show (match upT T L c with
      | none => none
      | some b => upI (upT T L) j b) = _
    rw [e1]
    exact e2
  have hj := up_end A hc eu
  obtain ⟨v, v1, v2⟩ := chn_ex A.1 hc _ _ eu
  have hl := (chn_v A.1 hc _ _ v1).cl A.1
  rw [v2] at hl
  obtain ⟨w, hw⟩ := vw_of v1 hj
  rw [v2] at hw
  exact ⟨hl, w, hw⟩
theorem L70_S (R : mjR) (n a : Nat) (b : Int32) (hp : mjH) : L_70_2 R (n + 1) a b hp = b_70_2 R (L_70_2 R n) a b hp := rfl
theorem L70b_S (R : mjR) (k2 : Nat → Int32 → mjH → mjU) (n a : Nat) (b e f g : Int32) (hp : mjH) : L_70_45 R k2 (n + 1) a b e f g hp = b_70_45 R k2 (L_70_45 R k2 n) a b e f g hp := rfl
def ovO (ov x : Option Nat) : Option Nat := match ov with
  | some y => some y
  | none => x
theorem lq_70b (P : PFm T N L) (k2 : Nat → Int32 → mjH → mjU) (hm : m < nMem L) : ∀ (r k n : Nat) (s : mjSt3) (a ov : Option Nat), k + r = 16 → r < n → JX T N q L s → ABK T L q s → RDM T N q L s → GB N s → (∀ x, a = some x → x < L.length) → (∀ x, ov = some x → x < nMem L) → ∃ s1, L_70_45 (mjF (d + 2)) k2 n 71 (nI m) (oI ov) (oI a) (nI k) (mjW0 s) = b_70_151 (mjF (d + 2)) k2 71 (nI m) (oI (ovO ov ((anc (upT T L) r a).findSome? (fun a => omT T L a (nkM T L m))))) (mjW0 s1) ∧ o58 s s1 ∧ GB N s1 ∧ (s1.1 58 7 = 0 ↔ s.1 58 7 = 0 ∧ ∀ b, b ∈ anc (upT T L) r a → ∀ o, omT T L b (nkM T L m) = some o → mSM L m = true ∧ mSM L o = true)
  | 0, k, n + 1, s, a, ov, e, _, X, A, D, g, ha, hv => by
    refine ⟨s, ?_, offG.rf, g, ⟨fun h => ⟨h, fun b hb => (by cases hb)⟩, fun h => h.1⟩⟩
    rw [L70b_S]
    unfold b_70_45
    rw [if_pos (show (16 : Int32) ≤ nI k from nI_le (a := 16) (by omega) (by omega))]
    show _ = b_70_151 (mjF (d + 2)) k2 71 (nI m) (oI (ovO ov none)) (mjW0 s)
    cases ov <;> rfl
  | r + 1, k, n + 1, s, none, ov, e, hr, X, A, D, g, ha, hv => by
    refine ⟨s, ?_, offG.rf, g, ⟨fun h => ⟨h, fun b hb => (by cases hb)⟩, fun h => h.1⟩⟩
    rw [L70b_S]
    unfold b_70_45
    rw [if_neg (show ¬ (16 : Int32) ≤ nI k from nI_ge (b := 16) (by omega) (by decide)), oI_n, if_pos rfl]
    show _ = b_70_151 (mjF (d + 2)) k2 71 (nI m) (oI (ovO ov none)) (mjW0 s)
    cases ov <;> rfl
  | r + 1, k, n + 1, s, some x, ov, e, hr, X, A, D, g, ha, hv => by
    have hq := X.2.2.2.2.1
    have hn := X.2.2.1
    have h16 := hn.1
    have hx := ha x rfl
    have D0 := D
    obtain ⟨d1, d2, d3, d4, d5⟩ := D
    obtain ⟨p1, p2, p3, p4, p5, p6⟩ := P m hm
    have pre : L_70_45 (mjF (d + 2)) k2 (n + 1) 71 (nI m) (oI ov) (oI (some x)) (nI k) (mjW0 s) = _ := L70b_S _ _ _ _ _ _ _ _ _
    unfold b_70_45 at pre
    have x119 := x_119 (d := d + 1) hq D0 P X.2.1 h16 hx (t := (mdM L m).2.1) (by omega) p3
    rw [if_neg (show ¬ (16 : Int32) ≤ nI k from nI_ge (b := 16) (by omega) (by decide)), oI_s, if_neg (nI_m1 (by omega)), xg_71_2, X.2.2.2.2.2.1.1, xg_71_3, X.2.2.2.2.2.1.2, ymg_1 hq, wya_15 hq (by omega), (d5 m hm).2.2.2.2.1, yV hq, x119, bI_s, show kyT T (mdM L m).2.1 = nkM T L m from rfl] at pre
    have ean : anc (upT T L) (r + 1) (some x) = x :: anc (upT T L) r (upT T L x) := rfl
    -- behind the question
    have fin : ∀ (z : mjSt3), o58 s z → GB N z → (z.1 58 7 = 0 ↔ s.1 58 7 = 0 ∧ ∀ o, omT T L x (nkM T L m) = some o → mSM L m = true ∧ mSM L o = true) → L_70_45 (mjF (d + 2)) k2 (n + 1) 71 (nI m) (oI ov) (oI (some x)) (nI k) (mjW0 s) = b_70_124 (mjF (d + 2)) k2 (L_70_45 (mjF (d + 2)) k2 n) 71 (nI m) (oI ov) (nI x) (nI k) (oI (omT T L x (nkM T L m))) (mjW0 z) → ∃ s1, L_70_45 (mjF (d + 2)) k2 (n + 1) 71 (nI m) (oI ov) (oI (some x)) (nI k) (mjW0 s) = b_70_151 (mjF (d + 2)) k2 71 (nI m) (oI (ovO ov ((anc (upT T L) (r + 1) (some x)).findSome? (fun a => omT T L a (nkM T L m))))) (mjW0 s1) ∧ o58 s s1 ∧ GB N s1 ∧ (s1.1 58 7 = 0 ↔ s.1 58 7 = 0 ∧ ∀ b, b ∈ anc (upT T L) (r + 1) (some x) → ∀ o, omT T L b (nkM T L m) = some o → mSM L m = true ∧ mSM L o = true) := by
      intro z oz gz iz pr
      have Xz := X.o58 oz
      have Az : ABK T L q z := by unfold ABK; rw [oz.r (by have : q = 2 ∨ q = 30 := hq; omega)]; exact A
      unfold b_70_124 b_70_135 at pr
      rw [xg_71_2, Xz.2.2.2.2.2.1.1, yV hq, x_up hn hq Az hx, bI_s, nI_1] at pr
      have pr' : L_70_45 (mjF (d + 2)) k2 (n + 1) 71 (nI m) (oI ov) (oI (some x)) (nI k) (mjW0 s) = L_70_45 (mjF (d + 2)) k2 n 71 (nI m) (oI (ovO ov (omT T L x (nkM T L m)))) (oI (upT T L x)) (nI (k + 1)) (mjW0 z) := by
        rw [pr]
        cases ov with
        | none =>
          rw [oI_n, if_pos rfl]
          rfl
        | some y =>
          have := hv y rfl
          rw [if_neg (show ¬ oI (some y) = -1 from nI_m1 (by omega)), xg_71_2, Xz.2.2.2.2.2.1.1, yV hq, x_up hn hq Az hx, bI_s]
          rfl
      obtain ⟨s1, a1, a2, a3, a4⟩ := lq_70b P k2 hm r (k + 1) n z (upT T L x) (ovO ov (omT T L x (nkM T L m))) (by omega) (by omega) Xz Az (D0.oJ hq (offG.mono oz (fun _ _ h => Or.inl h) (fun _ _ h => h.elim))) gz (fun y hy => up_lt hn hx hy) (fun y hy => by
        cases ov with
        | some w => cases hy; exact hv _ rfl
        | none => exact (om_v D0 hx hy).1)
      refine ⟨s1, ?_, oz.tr a2, a3, ?_⟩
      · rw [pr', a1, ean, List.findSome?_cons]
        have eo : ovO (ovO ov (omT T L x (nkM T L m))) ((anc (upT T L) r (upT T L x)).findSome? (fun a => omT T L a (nkM T L m))) = ovO ov (match omT T L x (nkM T L m) with
            | some b => some b
            | none => (anc (upT T L) r (upT T L x)).findSome? (fun a => omT T L a (nkM T L m))) := by
          cases ov with
          | some w => rfl
          | none =>
            cases omT T L x (nkM T L m) <;> rfl
        rw [eo]
        cases omT T L x (nkM T L m) <;> rfl
      · rw [a4, iz, ean]
        constructor
        · intro ⟨⟨a, b⟩, w⟩
          refine ⟨a, fun y hy => ?_⟩
          rcases List.mem_cons.mp hy with ey | ey
          · rw [ey]; exact b
          · exact w y ey
        · intro ⟨a, b⟩
          exact ⟨⟨a, b x (List.mem_cons_self ..)⟩, fun y hy => b y (List.mem_cons_of_mem _ hy)⟩
    cases ho : omT T L x (nkM T L m) with
    | none =>
      rw [ho, oI_n, if_pos rfl] at pre
      exact fin s offG.rf g ⟨fun h => ⟨h, fun o e => (by rw [ho] at e; cases e)⟩, fun h => h.1⟩ (by rw [ho]; exact pre)
    | some o =>
      have hol := om_v D0 hx ho
      rw [ho, oI_s, if_neg (nI_m1 (by omega)), xg_71_3, X.2.2.2.2.2.1.2, ymg_4 hq, wya_18 hq (by omega), (d5 m hm).2.2.2.2.2.1, b2_i] at pre
      have bad : L_70_45 (mjF (d + 2)) k2 (n + 1) 71 (nI m) (oI ov) (oI (some x)) (nI k) (mjW0 s) = b_70_107 (mjF (d + 2)) k2 (L_70_45 (mjF (d + 2)) k2 n) 71 (nI m) (oI ov) (nI x) (nI k) (nI o) (mjW0 s) → ¬ (mSM L m = true ∧ mSM L o = true) → ∃ s1, L_70_45 (mjF (d + 2)) k2 (n + 1) 71 (nI m) (oI ov) (oI (some x)) (nI k) (mjW0 s) = b_70_151 (mjF (d + 2)) k2 71 (nI m) (oI (ovO ov ((anc (upT T L) (r + 1) (some x)).findSome? (fun a => omT T L a (nkM T L m))))) (mjW0 s1) ∧ o58 s s1 ∧ GB N s1 ∧ (s1.1 58 7 = 0 ↔ s.1 58 7 = 0 ∧ ∀ b, b ∈ anc (upT T L) (r + 1) (some x) → ∀ o, omT T L b (nkM T L m) = some o → mSM L m = true ∧ mSM L o = true) := by
        intro pr no
        unfold b_70_107 at pr
        rw [xg_71_0, xg_71_1, xg_64_7, wa_69 (by omega), (d5 m hm).2.2.2.1, xV_58] at pr
        obtain ⟨z, b1, b2', b3⟩ := j_atG (d := d + 1) (k := 4) (t := (mdM L m).2.1) X.1 g (by omega) (by decide)
        rw [b1, bN_s] at pr
        exact fin z b3 (GB.ob b2') ⟨fun h => absurd h b2'.2, fun h => absurd (h.2 o ho) no⟩ (by rw [ho]; exact pr)
      cases hs : (mdM L m).2.2.1 with
      | false =>
        rw [hs, if_neg (by decide)] at pre
        exact bad pre (fun h => by have := h.1; unfold mSM at this; rw [hs] at this; cases this)
      | true =>
        rw [hs, if_pos rfl, xg_71_3, X.2.2.2.2.2.1.2, ymg_4 hq, wya_18 hq (by omega), (d5 o hol.1).2.2.2.2.2.1, b2_i] at pre
        cases hs2 : (mdM L o).2.2.1 with
        | false =>
          rw [hs2, if_neg (by decide)] at pre
          exact bad pre (fun h => by have := h.2; unfold mSM at this; rw [hs2] at this; cases this)
        | true =>
          rw [hs2, if_pos rfl] at pre
          exact fin s offG.rf g ⟨fun h => ⟨h, fun o' e => (by rw [ho] at e; cases e; exact ⟨hs, hs2⟩)⟩, fun h => h.1⟩ (by rw [ho]; exact pre)
theorem lq_70 (P : PFm T N L) (Ac : ACY T N L) : ∀ (r m n : Nat) (s : mjSt3), m + r = nMem L → r < n → JX T N q L s → ABK T L q s → RDM T N q L s → VWS T L q s → (∀ m, m < nMem L → TYr T L q s m) → GB N s → ∃ s', L_70_2 (mjF (d + 4)) n 71 (nI m) (mjW0 s) = some (none, mjW0 s') ∧ GB N s' ∧ (s'.1 58 7 = 0 ↔ s.1 58 7 = 0 ∧ ∀ j, m ≤ j → j < nMem L → OKe T L j) ∧ o58 s s'
  | 0, m, n + 1, s, e, _, X, A, D, V, Y, g => by
    have hq := X.2.2.2.2.1
    refine ⟨s, ?_, g, ⟨fun h => ⟨h, fun a h1 h2 => absurd h1 (by omega)⟩, fun h => h.1⟩, offG.rf⟩
    rw [L70_S]
    unfold b_70_2
    rw [xg_71_3, X.2.2.2.2.2.1.2, ymg_0 hq, D.2.1, if_pos (nI_le (by omega) (by have := D.2.2.1; omega))]
  | r + 1, m, n + 1, s, e, hr, X, A, D, V, Y, g => by
    have hq := X.2.2.2.2.1
    have hq' : q = 2 ∨ q = 30 := hq
    have hn := X.2.2.1
    have h16 := hn.1
    have hm : m < nMem L := by omega
    have D0 := D
    obtain ⟨d1, d2, d3, d4, d5⟩ := D
    obtain ⟨p1, p2, p3, p4, p5, p6⟩ := P m hm
    have hmc := (d5 m hm).2.1
    have pre : L_70_2 (mjF (d + 4)) (n + 1) 71 (nI m) (mjW0 s) = _ := L70_S _ _ _ _ _
    unfold b_70_2 at pre
    rw [xg_71_3, X.2.2.2.2.2.1.2, ymg_0 hq, d2, if_neg (nI_ge (by omega) (by omega)), xg_71_0, xV_58] at pre
    by_cases h7 : s.1 58 7 = 0
    · obtain ⟨cu, hcu, f⟩ := g.f h7
      rw [j_fine f, bI_s, if_neg (by decide), xg_71_2, X.2.2.2.2.2.1.1, xg_71_3, X.2.2.2.2.2.1.2, ymg_2 hq, wya_16 hq (by omega), (d5 m hm).1, yV hq, x_up (d := d + 2) hn hq A hmc, bI_s] at pre
      obtain ⟨z, a1, a2, a3, a4⟩ := lq_70b (d := d + 2) P (L_70_2 (mjF (d + 4)) n) hm 16 0 mjN s (upT T L (hmM L m)) none (by omega) (by have := mjN_v; omega) X A D0 g (fun x hx => up_lt hn hmc hx) (fun x hx => by cases hx)
      rw [show (-1 : Int32) = oI none from rfl, show (0 : Int32) = nI 0 from rfl, a1] at pre
      have enear : ovO none ((anc (upT T L) 16 (upT T L (hmM L m))).findSome? (fun a => omT T L a (nkM T L m))) = nearM T L m := rfl
      rw [enear] at pre
      unfold b_70_151 b_70_183 at pre
      have oj := offG.mono a2 (A' := fun h j => c58 h j ∨ h = q + 4 ∨ h = q + 5 ∨ h = q + 8 ∨ h = q + 11 ∨ h = q + 12 ∨ h = q + 17 ∨ h = q + 19 ∨ h = q + 21) (B' := fun h _ => h = 74 ∨ h = q + 13) (fun _ _ h => Or.inl h) (fun _ _ h => h.elim)
      have Xz := X.o58 a2
      have nxt : ∀ y, o58 s y → GB N y → (y.1 58 7 = 0 ↔ OKe T L m) → L_70_2 (mjF (d + 4)) (n + 1) 71 (nI m) (mjW0 s) = L_70_2 (mjF (d + 4)) n 71 (nI (m + 1)) (mjW0 y) → ∃ s', L_70_2 (mjF (d + 4)) (n + 1) 71 (nI m) (mjW0 s) = some (none, mjW0 s') ∧ GB N s' ∧ (s'.1 58 7 = 0 ↔ s.1 58 7 = 0 ∧ ∀ j, m ≤ j → j < nMem L → OKe T L j) ∧ o58 s s' := by
        intro y oy gy iy pr
        have oyj : oJ q s y := offG.mono oy (fun _ _ h => Or.inl h) (fun _ _ h => h.elim)
        obtain ⟨s', b1, b2', b3, b4⟩ := lq_70 P Ac r (m + 1) n y (by omega) (by omega) (X.o58 oy) (by unfold ABK; rw [oy.r (by omega)]; exact A) (D0.oJ hq oyj) (by unfold VWS; rw [oy.r (by omega)]; exact V) (fun m hm => by unfold TYr; rw [oy.r (by omega), oy.r (by omega)]; exact Y m hm) gy
        refine ⟨s', pr.trans b1, b2', ?_, oy.tr b4⟩
        rw [b3, iy]
        constructor
        · intro ⟨x, w⟩
          refine ⟨h7, fun j h1 h2 => ?_⟩
          by_cases ej : j = m
          · rw [ej]; exact x
          · exact w j (by omega) h2
        · intro ⟨x, w⟩
          exact ⟨w m (by omega) hm, fun j h1 h2 => w j (by omega) h2⟩
      cases ho : nearM T L m with
      | none =>
        rw [ho, oI_n, if_pos rfl, nI_1] at pre
        exact nxt z a2 a3 (by
          rw [a4]
          exact ⟨fun h => ⟨h.2, fun o e => (by rw [ho] at e; cases e)⟩, fun h => ⟨h7, h.1⟩⟩) pre
      | some o =>
        obtain ⟨a, ha, hao⟩ : ∃ a, a ∈ ancM T L m ∧ omT T L a (nkM T L m) = some o := by
          have := List.exists_of_findSome?_eq_some ho
          obtain ⟨a, h1, h2⟩ := this
          exact ⟨a, h1, h2⟩
        obtain ⟨hal, w, hw⟩ := vw_anc Ac hmc ha
        have hol := om_v D0 hal hao
        rw [← hol.2.1] at hw
        obtain ⟨bb, c1, c2⟩ := x_71 (d := d) Xz (D0.oJ hq oj) P (by unfold VWS; rw [a2.r (by omega)]; exact V) hm hol.1 (by unfold TYr; rw [a2.r (by omega), a2.r (by omega)]; exact Y m hm) (by unfold TYr; rw [a2.r (by omega), a2.r (by omega)]; exact Y o hol.1) hw
        have sm : bb = true ↔ ∀ o, nearM T L m = some o → samM T L m o := by
          rw [c2]
          constructor
          · intro h o' e v' hv'
            rw [ho] at e
            cases e
            rw [hw] at hv'
            cases hv'
            exact h
          · intro h
            exact h o ho w hw
        rw [ho, oI_s, if_neg (nI_m1 (by have := D0.2.2.1; omega)), xV_71, c1, bI_s, b2_i, nI_1, xg_71_0, xg_71_1, xg_64_7, wa_69 (by omega), show z.1 69 m = nI (mdM L m).2.1 by rw [a2.r (by decide)]; exact (d5 m hm).2.2.2.1, xV_58] at pre
        cases bb with
        | true =>
          rw [if_pos rfl] at pre
          exact nxt z a2 a3 (by
            rw [a4]
            exact ⟨fun h => ⟨h.2, sm.mp rfl⟩, fun h => ⟨h7, h.1⟩⟩) pre
        | false =>
          rw [if_neg (by decide)] at pre
          obtain ⟨y, b1, b2', b3⟩ := j_atG (d := d + 3) (k := 9) (t := (mdM L m).2.1) Xz.1 a3 (by omega) (by decide)
          rw [b1, bN_s] at pre
          exact nxt y (a2.tr b3) (GB.ob b2') ⟨fun h => absurd h b2'.2, fun h => absurd (sm.mpr h.2) (by decide)⟩ pre
    · rw [j_fineB (g.b h7), bI_s, if_pos rfl] at pre
      exact ⟨s, pre, g, ⟨fun h => absurd h h7, fun h => absurd h.1 h7⟩, offG.rf⟩
end MJA20
end
section
/-! ===== which FIELDS hold OBJECTS ===== -/
def lb (x : Int64) (i : Nat) : Bool := x.toBitVec.getLsbD i
theorem lb_or (x y : Int64) (i : Nat) : lb (x ||| y) i = (lb x i || lb y i) := by
  unfold lb
  rw [Int64.toBitVec_or, BitVec.getLsbD_or]
theorem lb_tp : ∀ k, k < 64 → ((1 : Int64) <<< ((nI k).toInt64 &&& 63)).toBitVec = BitVec.twoPow 64 k := by decide +kernel
theorem lb_one {k i : Nat} (hk : k < 64) : lb ((1 : Int64) <<< ((nI k).toInt64 &&& 63)) i = decide (k = i) := by
  unfold lb
  rw [lb_tp k hk, BitVec.getLsbD_twoPow]
  simp [hk]
theorem lb_0 (i : Nat) : lb 0 i = false := by
  unfold lb
  rw [show (0 : Int64).toBitVec = 0#64 from rfl, BitVec.getLsbD_zero]
/-- the number of MEMBER m: a FIELD's place, or which METHOD of its CLASS -/
def nuM (L : List CD) (m : Nat) : Nat := cntB (mSM L m) ((match L[hmM L m]? with
  | some D => D.2
  | none => []).take (m - fmL L (hmM L m)))
def numM (T : TT) (L : List CD) (m : Nat) : Nat := if mSM L m = true then nuM L m else nuM L m + (fldT T L (hmM L m) - oflL L (hmM L m))
def obM (T : TT) (L : List CD) (m c i : Nat) : Bool := !mSM L m && decide (2 ≤ tyM T L m) && (vwT (nmL L) (abT T L) c (hmM L m)).isSome && decide (numM T L m = i)
/-- FIELD i of CLASS c holds OBJECTS -/
def obT (T : TT) (L : List CD) (c i : Nat) : Bool := anyB (fun m => obM T L m c i) (nMem L)
def OBr (q : Nat) (s : mjSt3) (n : Nat) (w : Nat → Nat → Bool) : Prop := ∀ c, c < n → ∀ i, i < 384 → lb (s.2.1 (q + 13) (6 * c + i / 64)) (i % 64) = w c i
def oOb (q : Nat) : mjSt3 → mjSt3 → Prop := offG (fun _ _ => False) (fun h _ => h = q + 13)
/-- the rows of numbers -/
def NUr (T : TT) (L : List CD) (q : Nat) (s : mjSt3) : Prop := ∀ m, m < nMem L → s.1 (q + 19) m = nI (numM T L m) ∧ numM T L m < 384
section MJA21
variable {T : TT} {d N q c t n e k u v i m o : Nat} {s s' : mjSt3} {L : List CD}
theorem L120_S (R : mjR) (n a : Nat) (b : Int32) (hp : mjH) : L_120_2 R (n + 1) a b hp = b_120_2 R (L_120_2 R n) a b hp := rfl
theorem L120b_S (R : mjR) (k2 : Nat → Int32 → mjH → mjU) (n a : Nat) (b e : Int32) (hp : mjH) : L_120_15 R k2 (n + 1) a b e hp = b_120_15 R k2 (L_120_15 R k2 n) a b e hp := rfl
theorem oOb.ii (o : oOb q s s') : s'.1 = s.1 := funext fun h => funext fun j => o.1 h j (fun e => e)
theorem oOb.l (o : oOb q s s') {h : Nat} (hh : ¬ h = q + 13) : s'.2.1 h = s.2.1 h := funext fun j => o.2.1 h j hh
theorem lq_120b (hn : HN T N L) (hq : isP q) (k2 : Nat → Int32 → mjH → mjU) (hm : m < nMem L) : ∀ (r c n : Nat) (s : mjSt3), c + r = L.length → r < n → s.1 q 0 = nI L.length → RDM T N q L s → VWS T L q s → TYr T L q s m → NUr T L q s → (OBr q s L.length (fun c' i => anyB (fun m => obM T L m c' i) m || (decide (c' < c) && obM T L m c' i))) → ∃ s', L_120_15 (mjF (d + 1)) k2 n q (nI m) (nI c) (mjW0 s) = k2 q (nI (m + 1)) (mjW0 s') ∧ oOb q s s' ∧ OBr q s' L.length (fun c' i => anyB (fun m => obM T L m c' i) (m + 1))
  | 0, c, n + 1, s, e, _, h0, D, V, Y, U, w => by
    have h16 := hn.1
    refine ⟨s, ?_, offG.rf, fun c' hc i hi => ?_⟩
    · rw [L120b_S]
      unfold b_120_15 b_120_103
      rw [yg_0 hq, h0, if_pos (nI_le (by omega) (by omega)), nI_1]
    · rw [w c' hc i hi]
      dsimp only
      have : decide (c' < c) = true := decide_eq_true (by omega)
      rw [this, Bool.true_and]
      rfl
  | r + 1, c, n + 1, s, e, hr, h0, D, V, Y, U, w => by
    have h16 := hn.1
    have hc : c < L.length := by omega
    obtain ⟨d1, d2, d3, d4, d5⟩ := id D
    obtain ⟨m1, m2, m3, m4, m5, m6, m7⟩ := d5 m hm
    have tv : vT L (tyM T L m) := ty_v hn (fun c hc => by cases hc; exact m2)
    have tl := tv.lt hn
    have pre : L_120_15 (mjF (d + 1)) k2 (n + 1) q (nI m) (nI c) (mjW0 s) = _ := L120b_S _ _ _ _ _ _ _
    unfold b_120_15 b_120_103 b_120_97 at pre
    rw [yg_0 hq, h0, if_neg (nI_ge (by omega) (by omega)), yg_14 hq, ymg_4 hq, wya_18 hq (by omega), m6, b2_i] at pre
    have none_ : (∀ c' i, obM T L m c' i = false) → L_120_15 (mjF (d + 1)) k2 (n + 1) q (nI m) (nI c) (mjW0 s) = k2 q (nI (m + 1)) (mjW0 s) → ∃ s', L_120_15 (mjF (d + 1)) k2 (n + 1) q (nI m) (nI c) (mjW0 s) = k2 q (nI (m + 1)) (mjW0 s') ∧ oOb q s s' ∧ OBr q s' L.length (fun c' i => anyB (fun m => obM T L m c' i) (m + 1)) := by
      intro z pr
      refine ⟨s, pr, offG.rf, fun c' hc' i hi => ?_⟩
      rw [w c' hc' i hi]
      dsimp only
      rw [z, Bool.and_false, Bool.or_false]
      show _ = (anyB (fun m => obM T L m c' i) m || obM T L m c' i)
      rw [z, Bool.or_false]
    cases hs : mSM L m with
    | true =>
      rw [show (mdM L m).2.2.1 = true from hs, if_pos rfl, nI_1] at pre
      exact none_ (fun c' i => by unfold obM; rw [hs]; rfl) pre
    | false =>
      rw [show (mdM L m).2.2.1 = false from hs, if_neg (by decide), yg_14 hq, ymg_3 hq, wya_17 hq (by omega), Y.1] at pre
      by_cases g2 : 2 ≤ tyM T L m
      · rw [if_neg (show ¬ tyI (tyT T L (some (hmM L m)) (mdM L m).1) < 0 from fun x => by have := (tyI_neg tl).mp x; omega), yg_14 hq, ymg_2 hq, wya_16 hq (by omega), m1, yV hq, x_view hq (by omega) (by omega), bI_s] at pre
        have vn := vw_nn hn V hc m2
        have nxt : ∀ z, oOb q s z → OBr q z L.length (fun c' i => anyB (fun m => obM T L m c' i) m || (decide (c' < c + 1) && obM T L m c' i)) → L_120_15 (mjF (d + 1)) k2 (n + 1) q (nI m) (nI c) (mjW0 s) = L_120_15 (mjF (d + 1)) k2 n q (nI m) (nI (c + 1)) (mjW0 z) → ∃ s', L_120_15 (mjF (d + 1)) k2 (n + 1) q (nI m) (nI c) (mjW0 s) = k2 q (nI (m + 1)) (mjW0 s') ∧ oOb q s s' ∧ OBr q s' L.length (fun c' i => anyB (fun m => obM T L m c' i) (m + 1)) := by
          intro z oz wz pr
          have ei := oz.ii
          obtain ⟨s', a1, a2, a3⟩ := lq_120b hn hq k2 hm r (c + 1) n z (by omega) (by omega) (by rw [ei]; exact h0) (by unfold RDM; rw [ei, oz.l (by omega), oz.l (by have : q = 2 ∨ q = 30 := hq; omega)]; exact D) (by unfold VWS; rw [ei]; exact V) (by unfold TYr; rw [ei]; exact Y) (by unfold NUr; rw [ei]; exact U) wz
          exact ⟨s', pr.trans a1, oz.tr a2, a3⟩
        by_cases gv : (vwT (nmL L) (abT T L) c (hmM L m)).isSome = true
        · obtain ⟨u1, u2⟩ := U m hm
          rw [if_neg (Int32.not_lt.mpr (vn.mpr gv)), yg_14 hq, ymg_5 hq, wya_19 hq (by omega), u1, yg_13 hq, show nI (numM T L m) / (64 : Int32) = nI (numM T L m / 64) from pk_div (d := 64) (by omega) (by decide) (by decide), show nI c * (6 : Int32) + nI (numM T L m / 64) = nI (6 * c + numM T L m / 64) by rw [show (6 : Int32) = nI 6 from rfl, nI_mul, nI_add, Nat.mul_comm], wya_13 hq (by omega), wys_13 hq (by omega), show nI (numM T L m) - nI (numM T L m / 64) * (64 : Int32) = nI (numM T L m % 64) by rw [show (64 : Int32) = nI 64 from rfl, nI_mul, pk_sub (by omega), show numM T L m - numM T L m / 64 * 64 = numM T L m % 64 by omega], nI_1] at pre
          refine nxt _ (offG.wl rfl) (fun c' hc' i hi => ?_) pre
          rw [uL_same]
          show lb (if 6 * c' + i / 64 = 6 * c + numM T L m / 64 then _ else s.2.1 (q + 13) (6 * c' + i / 64)) (i % 64) = _
          have w0 := w c' hc' i hi
          dsimp only at w0 ⊢
          by_cases e1 : 6 * c' + i / 64 = 6 * c + numM T L m / 64
          · have ec : c' = c := by omega
            subst ec
            have ed : i / 64 = numM T L m / 64 := by omega
            rw [if_pos e1, lb_or, lb_one (by omega), ← e1, w0]
            have h1 : decide (c' < c') = false := decide_eq_false (by omega)
            have h2 : decide (c' < c' + 1) = true := decide_eq_true (by omega)
            have h3 : obM T L m c' i = decide (numM T L m % 64 = i % 64) := by
              unfold obM
              rw [hs, gv, decide_eq_true g2]
              show decide (numM T L m = i) = _
              exact decide_eq_decide.mpr (by omega)
            rw [h1, h2, h3, Bool.false_and, Bool.or_false, Bool.true_and]
          · rw [if_neg e1, w0]
            by_cases ec : c' = c
            · subst ec
              have h1 : decide (c' < c') = false := decide_eq_false (by omega)
              have h3 : obM T L m c' i = false := by
                unfold obM
                have : decide (numM T L m = i) = false := decide_eq_false (by intro x; apply e1; rw [x])
                rw [this, Bool.and_false]
              rw [h3, Bool.and_false, Bool.and_false]
            · have : decide (c' < c + 1) = decide (c' < c) := decide_eq_decide.mpr (by omega)
              rw [this]
        · rw [if_pos (Int32.not_le.mp (fun x => gv (vn.mp x))), nI_1] at pre
          refine nxt s offG.rf (fun c' hc' i hi => ?_) pre
          rw [w c' hc' i hi]
          dsimp only
          by_cases ec : c' = c
          · subst ec
            have h3 : obM T L m c' i = false := by
              unfold obM
              rw [show (vwT (nmL L) (abT T L) c' (hmM L m)).isSome = false by simpa using gv, Bool.and_false]
              rfl
            rw [h3, Bool.and_false, Bool.and_false]
          · have : decide (c' < c + 1) = decide (c' < c) := decide_eq_decide.mpr (by omega)
            rw [this]
      · rw [if_pos (show tyI (tyT T L (some (hmM L m)) (mdM L m).1) < 0 from (tyI_neg tl).mpr (by omega)), nI_1] at pre
        exact none_ (fun c' i => by unfold obM; rw [decide_eq_false g2, Bool.and_false]; rfl) pre
theorem lq_120 (hn : HN T N L) (hq : isP q) : ∀ (r m n : Nat) (s : mjSt3), m + r = nMem L → r < n → s.1 q 0 = nI L.length → RDM T N q L s → VWS T L q s → (∀ m, m < nMem L → TYr T L q s m) → NUr T L q s → (OBr q s L.length (fun c' i => anyB (fun m => obM T L m c' i) m)) → ∃ s', L_120_2 (mjF (d + 1)) n q (nI m) (mjW0 s) = some (none, mjW0 s') ∧ oOb q s s' ∧ OBr q s' L.length (obT T L)
  | 0, m, n + 1, s, e, _, h0, D, V, Y, U, w => by
    refine ⟨s, ?_, offG.rf, ?_⟩
    · rw [L120_S]
      unfold b_120_2
      rw [yg_14 hq, ymg_0 hq, D.2.1, if_pos (nI_le (by omega) (by have := D.2.2.1; omega))]
    · rw [show m = nMem L by omega] at w
      exact w
  | r + 1, m, n + 1, s, e, hr, h0, D, V, Y, U, w => by
    have h16 := hn.1
    have hm : m < nMem L := by omega
    have d3 := D.2.2.1
    obtain ⟨z, a1, a2, a3⟩ := lq_120b (d := d) hn hq (L_120_2 (mjF (d + 1)) n) hm L.length 0 mjN s (by omega) (by have := mjN_v; omega) h0 D V (Y m hm) U (fun c' hc' i hi => by
      have : decide (c' < 0) = false := decide_eq_false (by omega)
      rw [w c' hc' i hi]
      dsimp only
      rw [this, Bool.false_and, Bool.or_false])
    have ei := a2.ii
    obtain ⟨s', b1, b2', b3⟩ := lq_120 hn hq r (m + 1) n z (by omega) (by omega) (by rw [ei]; exact h0) (by unfold RDM; rw [ei, a2.l (by omega), a2.l (by have : q = 2 ∨ q = 30 := hq; omega)]; exact D) (by unfold VWS; rw [ei]; exact V) (by unfold TYr; rw [ei]; exact Y) (by unfold NUr; rw [ei]; exact U) a3
    refine ⟨s', ?_, a2.tr b2', b3⟩
    rw [L120_S]
    unfold b_120_2
    rw [yg_14 hq, ymg_0 hq, D.2.1, if_neg (nI_ge (by omega) (by omega))]
    exact a1.trans b1
/-- fillObjectFields -/
theorem x_120 (hn : HN T N L) (hq : isP q) (h0 : s.1 q 0 = nI L.length) (D : RDM T N q L s) (V : VWS T L q s) (Y : ∀ m, m < nMem L → TYr T L q s m) (U : NUr T L q s) (w : ∀ j, j < 96 → s.2.1 (q + 13) j = 0) : ∃ s', mjF (d + 2) 120 [.ref q] (mjW0 s) = some (none, mjW0 s') ∧ oOb q s s' ∧ OBr q s' L.length (obT T L) := by
  obtain ⟨s', a1, a2, a3⟩ := lq_120 (d := d) hn hq (nMem L) 0 mjN s (by omega) (by have := D.2.2.1; have := mjN_v; omega) h0 D V Y U (fun c hc i hi => by
    rw [w _ (by have := hn.1; omega), lb_0]
    rfl)
  refine ⟨s', ?_, a2, a3⟩
  rw [e_120]
  unfold f_120 b_120_0
  exact a1
end MJA21
end
section
/-! ===== judgeHeads ===== -/
/-- (a) to (e) find nothing -/
def OKh (T : TT) (L : List CD) (tr : Bool) : Prop := (∀ c, c < L.length → OKa T L c) ∧ (∀ c, c < L.length → OKb T L c) ∧ (∀ c, c < L.length → OKr T L c) ∧ (∀ c, c < L.length → OKc T L c) ∧ (∀ c, c < L.length → OKd T L tr c) ∧ ∀ m, m < nMem L → OKe T L m
/-- what the reader left, rows that are clear -/
def RD0 (T : TT) (N q : Nat) (L : List CD) (s : mjSt3) : Prop := (TH T N s ∧ KY T N s ∧ HN T N L ∧ isP q ∧ pnm q s (nmL L) ∧ s.1 q 0 = nI L.length) ∧ RDR L s ∧ RDM T N q L s ∧ (PFi T N L ∧ PFm T N L) ∧ (∀ j, j < 16 → s.1 (q + 5) j = -1 ∧ s.1 (q + 8) j = 0 ∧ s.1 (q + 3) j = nI (inL L j) ∧ s.1 (q + 7) j = nI (oflL L j)) ∧ (∀ j, j < 112 → s.1 (q + 11) j = 0) ∧ (∀ j, j < 256 → s.1 (q + 12) j = -1) ∧ (∀ j, j < 96 → s.2.1 (q + 13) j = 0) ∧ ∀ m, m < nMem L → s.1 (q + 19) m = nI (nuM L m)
/-- the class's rows behind (a) to (e) -/
def HDR (T : TT) (N q : Nat) (L : List CD) (s : mjSt3) : Prop := JX T N q L s ∧ ABK T L q s ∧ INP q s (inL L) (ipT T L) ∧ VWS T L q s ∧ (∀ j, j < L.length → s.1 (q + 8) j = nI (fldT T L j)) ∧ NUr T L q s ∧ KNW q s (knF T L) ∧ (∀ m, m < nMem L → TYr T L q s m) ∧ OBr q s L.length (obT T L)
/-- all that the phases change; all that judgeHeads changes -/
def oJP (q : Nat) : mjSt3 → mjSt3 → Prop := offG (fun h j => c58 h j ∨ h = q + 4 ∨ h = q + 5 ∨ h = q + 8 ∨ h = q + 11 ∨ h = q + 12 ∨ h = q + 17 ∨ h = q + 19 ∨ h = q + 21) (fun h _ => h = 72 ∨ h = 73 ∨ h = 74 ∨ h = q + 13)
def oJH (q : Nat) (s s' : mjSt3) : Prop := (∀ h j, ¬ (c58 h j ∨ (h = 71 ∧ j = 4) ∨ h = q + 4 ∨ h = q + 5 ∨ h = q + 8 ∨ h = q + 11 ∨ h = q + 12 ∨ h = q + 17 ∨ h = q + 19 ∨ h = q + 21) → s'.1 h j = s.1 h j) ∧ (∀ h, ¬ (h = 72 ∨ h = 73 ∨ h = 74 ∨ h = q + 13) → s'.2.1 h = s.2.1 h) ∧ ∀ h, ¬ h = 71 → s'.2.2 h = s.2.2 h
section MJA22
variable {T : TT} {d N q c t n e k u v i m o : Nat} {s s' : mjSt3} {L : List CD} {tr : Bool}
theorem oJH.trn {a b c : mjSt3} (h : oJH q a b) (g : oJH q b c) : oJH q a c := ⟨fun x y z => (g.1 x y z).trans (h.1 x y z), fun x y => (g.2.1 x y).trans (h.2.1 x y), fun x y => (g.2.2 x y).trans (h.2.2 x y)⟩
theorem oJ.P (o : oJ q s s') : oJP q s s' := offG.mono o (fun _ _ h => h) (fun _ _ h => h.elim (fun h => Or.inr (Or.inr (Or.inl h))) (fun h => Or.inr (Or.inr (Or.inr h))))
theorem oJa.P (o : oJa s s') : oJP q s s' := offG.mono o (fun _ _ h => Or.inl h) (fun _ _ h => h.elim Or.inl (fun h => Or.inr (Or.inl h)))
theorem o58.P (o : o58 s s') : oJP q s s' := offG.mono o (fun _ _ h => Or.inl h) (fun _ _ h => h.elim)
theorem oJP.H (o : oJP q s s') : oJH q s s' := ⟨fun x y z => o.1 x y (fun w => z (w.elim Or.inl (fun w => Or.inr (Or.inr w)))), fun x z => funext fun y => o.2.1 x y z, fun x _ => by rw [o.2.2]⟩
theorem oJP.r (o : oJP q s s') {h : Nat} (hh : ¬ (h = 58 ∨ h = q + 4 ∨ h = q + 5 ∨ h = q + 8 ∨ h = q + 11 ∨ h = q + 12 ∨ h = q + 17 ∨ h = q + 19 ∨ h = q + 21)) : s'.1 h = s.1 h := funext fun j => o.1 h j (by unfold c58; omega)
theorem sumN_ge {f : Nat → Nat} : ∀ {n i : Nat}, i < n → f i ≤ sumN f n
  | 0, i, h => by omega
  | n + 1, i, h => by
    show f i ≤ sumN f n + f n
    by_cases e : i = n
    · rw [e]; omega
    · have := sumN_ge (f := f) (n := n) (i := i) (by omega); omega
theorem vw_self (hn : HN T N L) (hc : c < L.length) : vwT (nmL L) (abT T L) c c = some (own (nmL L) c) := by
  unfold vwT vwk
  rw [show fnd _ 16 = some 0 from fnd_some.mpr ⟨by omega, by
    show decide (cK (own (nmL L) c) = c) = true
    exact decide_eq_true (own_c hn hc), fun j hj => absurd hj (by omega)⟩]
  rfl
theorem ofl_fld (hn : HN T N L) : oflL L c ≤ fldT T L c := by
  by_cases hc : c < L.length
  · have := sumN_ge (f := fun a => if (vwT (nmL L) (abT T L) c a).isSome = true then oflL L a else 0) hc
    rw [vw_self hn hc] at this
    exact this
  · have : oflL L c = 0 := by unfold oflL; rw [List.getElem?_eq_none (by omega)]
    omega
theorem cnt_le (b : Bool) (l : List MD) : cntB b l ≤ l.length := List.length_filter_le _ _
theorem cnt_lt {b : Bool} {md : MD} : ∀ {l : List MD} {k : Nat}, l[k]? = some md → md.2.2.1 = b → cntB b (l.take k) < cntB b l
  | [], k, h, _ => by cases h
  | x :: l, 0, h, hb => by
    have ex : x = md := by simpa using h
    subst ex
    show 0 < cntB b (x :: l)
    unfold cntB
    rw [List.filter_cons, hb, if_pos (by simp)]
    simp
  | x :: l, k + 1, h, hb => by
    have ih := cnt_lt (l := l) (k := k) h hb
    unfold cntB at ih ⊢
    rw [List.take_succ_cons, List.filter_cons, List.filter_cons]
    by_cases g : (x.2.2.1 == b) = true
    · rw [if_pos g, if_pos g, List.length_cons, List.length_cons]; omega
    · rw [if_neg g, if_neg g]; exact ih
theorem nu_lt (hm : m < nMem L) : nuM L m < cntB (mSM L m) ((match L[hmM L m]? with
    | some D => D.2
    | none => [])) := by
  obtain ⟨c, D, k, h1, h2, h3, h4⟩ := FL_ex hm
  unfold nuM
  rw [h4, h1, h3]
  have e : nMem (L.take c) + k - fmL L c = k := by unfold fmL; omega
  rw [e]
  rw [h3] at h2
  exact cnt_lt h2 rfl
theorem num_lt (hn : HN T N L) (h24 : ∀ a, oflL L a ≤ 24) (hc24 : ∀ c, c < L.length → mcL L c ≤ 24) (hm : m < nMem L) (hl : hmM L m < L.length) : numM T L m < 384 := by
  have a := nu_lt hm
  have h16 := hn.1
  obtain ⟨D, hD⟩ : ∃ D, L[hmM L m]? = some D := ⟨_, List.getElem?_eq_getElem hl⟩
  rw [hD] at a
  dsimp only at a
  have e2 := hc24 _ hl
  unfold mcL at e2
  rw [hD] at e2
  dsimp only at e2
  unfold numM
  cases hs : mSM L m with
  | true =>
    rw [if_pos rfl]
    have := cnt_le (mSM L m) D.2
    omega
  | false =>
    rw [if_neg (by decide)]
    rw [hs] at a
    have b : oflL L (hmM L m) = cntB false D.2 := by unfold oflL; rw [hD]
    have f := ofl_fld (T := T) (c := hmM L m) hn
    have g : fldT T L (hmM L m) ≤ 384 := fsum_le h24 h16
    omega
/-- in a bad state the phases do nothing -/
def BJ (q n M : Nat) (s : mjSt3) : Prop := isP q ∧ (s.2.2 71 2 = q ∧ s.2.2 71 3 = q + 14) ∧ (s.1 q 0 = nI n ∧ n ≤ 16) ∧ s.1 (q + 14) 0 = nI M ∧ M ≤ 384
theorem le_or (a : Nat) (h : a < 2 ^ 31) : nI a ≤ 0 ∨ ¬ nI a ≤ 0 := Classical.em _
theorem n_59 {M : Nat} (B : BJ q n M s) (b : bdd N s) : mjF (d + 2) 59 [.ref 71] (mjW0 s) = some (none, mjW0 s) := by
  obtain ⟨hq, ⟨r2, r3⟩, ⟨h0, h16⟩, h14, hM⟩ := B
  rw [e_59]
  unfold f_59 b_59_0
  rw [show mjN = 99999999 + 1 from rfl, L59_S]
  unfold b_59_2
  rw [xg_71_2, r2, yg_0 hq, h0, xg_71_0, xV_58, j_fineB b, bI_s, if_pos rfl, ite_self]
theorem n_63 {M : Nat} (B : BJ q n M s) (b : bdd N s) : mjF (d + 2) 63 [.ref 71] (mjW0 s) = some (none, mjW0 s) := by
  obtain ⟨hq, ⟨r2, r3⟩, ⟨h0, h16⟩, h14, hM⟩ := B
  rw [e_63]
  unfold f_63 b_63_0
  rw [show mjN = 99999999 + 1 from rfl, L63_S]
  unfold b_63_2
  rw [xg_71_2, r2, yg_0 hq, h0, xg_71_0, xV_58, j_fineB b, bI_s, if_pos rfl, ite_self]
theorem n_64 {M : Nat} (B : BJ q n M s) (b : bdd N s) : mjF (d + 2) 64 [.ref 71] (mjW0 s) = some (none, mjW0 s) := by
  obtain ⟨hq, ⟨r2, r3⟩, ⟨h0, h16⟩, h14, hM⟩ := B
  rw [e_64]
  unfold f_64 b_64_0
  rw [show mjN = 99999999 + 1 from rfl, L64_S]
  unfold b_64_2
  rw [xg_71_2, r2, yg_0 hq, h0, xg_71_0, xV_58, j_fineB b, bI_s, if_pos rfl, ite_self]
theorem n_66 {M : Nat} (B : BJ q n M s) (b : bdd N s) : mjF (d + 2) 66 [.ref 71] (mjW0 s) = some (none, mjW0 s) := by
  obtain ⟨hq, ⟨r2, r3⟩, ⟨h0, h16⟩, h14, hM⟩ := B
  rw [e_66]
  unfold f_66 b_66_0
  rw [show mjN = 99999999 + 1 from rfl, L66_S]
  unfold b_66_2
  rw [xg_71_2, r2, yg_0 hq, h0, xg_71_0, xV_58, j_fineB b, bI_s, if_pos rfl, ite_self]
theorem n_70 {M : Nat} (B : BJ q n M s) (b : bdd N s) : mjF (d + 2) 70 [.ref 71] (mjW0 s) = some (none, mjW0 s) := by
  obtain ⟨hq, ⟨r2, r3⟩, ⟨h0, h16⟩, h14, hM⟩ := B
  rw [e_70]
  unfold f_70 b_70_0
  rw [show mjN = 99999999 + 1 from rfl, L70_S]
  unfold b_70_2
  rw [xg_71_3, r3, ymg_0 hq, h14, xg_71_0, xV_58, j_fineB b, bI_s, if_pos rfl, ite_self]
theorem BJ.off {M : Nat} (B : BJ q n M s) (o : oJP q s s') : BJ q n M s' := by
  obtain ⟨hq, r, ⟨h0, h16⟩, h14, hM⟩ := B
  have hq' : q = 2 ∨ q = 30 := hq
  exact ⟨hq, by rw [o.2.2]; exact r, ⟨by rw [o.r (by omega)]; exact h0, h16⟩, by rw [o.r (by omega)]; exact h14, hM⟩
theorem n_65b {M : Nat} (B : BJ q n M s) (b : bdd N s) : b_54_65 (mjF (d + 2)) 71 (mjW0 s) = some (none, mjW0 s) := by
  unfold b_54_65
  rw [xV_71, n_66 B b, bN_s, xV_71, n_70 B b, bN_s, xg_71_0, xV_58, j_fineB b, bI_s, if_pos rfl]
/-- judgeHeads -/
theorem x_54 (Z : RD0 T N q L s) (f : ∃ c, c ≤ N ∧ fne s c) : ∃ s', mjF (d + 8) 54 [.ref 71, .ref q, .int (b2 tr)] (mjW0 s) = some (none, mjW0 s') ∧ oJH q s s' ∧ (s'.2.2 71 2 = q ∧ s'.2.2 71 3 = q + 14 ∧ s'.1 71 4 = b2 tr) ∧ ((OKh T L tr ∧ (∃ c, c ≤ N ∧ fne s' c) ∧ HDR T N q L s' ∧ s'.1 (q + 17) 384 = s.1 (q + 17) 384) ∨ (¬ OKh T L tr ∧ bdd N s')) := by
  obtain ⟨⟨z1, z2, z3, z4, z5, z6⟩, zR, zM, ⟨zi, zm⟩, zr, zk, zv, zo, zn⟩ := Z
  have hq' : q = 2 ∨ q = 30 := z4
  have h16 := z3.1
  have h71 : ¬ (71 = 58 ∨ 71 = q + 4 ∨ 71 = q + 5 ∨ 71 = q + 8 ∨ 71 = q + 11 ∨ 71 = q + 12 ∨ 71 = q + 17 ∨ 71 = q + 19 ∨ 71 = q + 21) := by omega
  obtain ⟨s1, h1⟩ : ∃ s1, s1 = uI (uR (uR s 71 (updR (s.2.2 71) 2 q)) 71 (updR ((uR s 71 (updR (s.2.2 71) 2 q)).2.2 71) 3 (q + 14))) 71 (upd (s.1 71) 4 (b2 tr)) := ⟨_, rfl⟩
  have pre : mjF (d + 8) 54 [.ref 71, .ref q, .int (b2 tr)] (mjW0 s) = _ := e_54 (d := d + 7)
  unfold f_54 b_54_0 at pre
  rw [xp_71_2, yg_14 z4, xp_71_3, xp_71_4 (by cases tr <;> rfl)] at pre
  have e71 : (uR (uR s 71 (updR (s.2.2 71) 2 q)) 71 (updR ((uR s 71 (updR (s.2.2 71) 2 q)).2.2 71) 3 (q + 14))).1 71 = s.1 71 := rfl
  rw [e71, ← h1, xV_71] at pre
  have i1 : ∀ h j, ¬ (h = 71 ∧ j = 4) → s1.1 h j = s.1 h j := by
    intro h j hh
    rw [h1]
    by_cases e : h = 71
    · rw [e, uI_same, upd_g, if_neg (by omega)]
    · rw [uI_ne _ _ _ _ e]; rfl
  have i1r : ∀ h, ¬ h = 71 → s1.1 h = s.1 h := fun h hh => funext fun j => i1 h j (by omega)
  have l1 : s1.2.1 = s.2.1 := by rw [h1]; rfl
  have r1 : s1.2.2 71 2 = q ∧ s1.2.2 71 3 = q + 14 := by
    rw [h1]
    refine ⟨?_, ?_⟩
    · show (uR (uR s 71 (updR (s.2.2 71) 2 q)) 71 (updR ((uR s 71 (updR (s.2.2 71) 2 q)).2.2 71) 3 (q + 14))).2.2 71 2 = q
      rw [uR_same, uR_same]
      rfl
    · show (uR (uR s 71 (updR (s.2.2 71) 2 q)) 71 (updR ((uR s 71 (updR (s.2.2 71) 2 q)).2.2 71) 3 (q + 14))).2.2 71 3 = q + 14
      rw [uR_same]
      rfl
  have t1 : s1.1 71 4 = b2 tr := by rw [h1, uI_same]; rfl
  have o1 : oJH q s s1 := ⟨fun h j hh => i1 h j (fun x => hh (Or.inr (Or.inl x))), fun h _ => by rw [l1], fun h hh => by
    rw [h1]
    show (uR (uR s 71 (updR (s.2.2 71) 2 q)) 71 (updR ((uR s 71 (updR (s.2.2 71) 2 q)).2.2 71) 3 (q + 14))).2.2 h = _
    rw [uR_ne _ _ _ _ hh, uR_ne _ _ _ _ hh]⟩
  have B1 : JB T N q L s1 := by
    obtain ⟨a, b, c, e⟩ := z1
    refine ⟨⟨by rw [i1r 58 (by decide)]; exact a, b, c, fun k hk => by rw [i1r 60 (by decide), i1r 61 (by decide)]; exact e k hk⟩, z2.lr (by rw [l1]), z3, z4, r1, ?_, ?_, ?_⟩
    · unfold pnm; rw [i1r _ (by omega)]; exact z5
    · rw [i1r _ (by omega)]; exact z6
    · unfold RDR; rw [i1r 65 (by decide), i1r 66 (by decide), i1r 67 (by decide)]; exact zR
  have J1 : BJ q L.length (nMem L) s1 := ⟨z4, r1, ⟨B1.2.2.2.2.2.2.1, h16⟩, by rw [i1r _ (by omega)]; exact zM.2.1, zM.2.2.1⟩
  obtain ⟨cu, hcu, fcu⟩ := f
  have f1 : fne s1 cu := ⟨by rw [i1r 58 (by decide)]; exact fcu.1, by rw [i1r 58 (by decide)]; exact fcu.2⟩
  -- (a)
  obtain ⟨s2, a1, a2, a3, a4, a5⟩ := x_55 (d := d + 4) B1 (GB.of f1 hcu)
  rw [a1, bN_s, xV_71] at pre
  have P2 : oJP q s1 s2 := a4.P
  -- a state that is bad goes on to the end
  have fin : ∀ (z : mjSt3), oJP q s1 z → mjF (d + 8) 54 [.ref 71, .ref q, .int (b2 tr)] (mjW0 s) = some (none, mjW0 z) → ((OKh T L tr ∧ (∃ c, c ≤ N ∧ fne z c) ∧ HDR T N q L z ∧ z.1 (q + 17) 384 = s.1 (q + 17) 384) ∨ (¬ OKh T L tr ∧ bdd N z)) → ∃ s', mjF (d + 8) 54 [.ref 71, .ref q, .int (b2 tr)] (mjW0 s) = some (none, mjW0 s') ∧ oJH q s s' ∧ (s'.2.2 71 2 = q ∧ s'.2.2 71 3 = q + 14 ∧ s'.1 71 4 = b2 tr) ∧ ((OKh T L tr ∧ (∃ c, c ≤ N ∧ fne s' c) ∧ HDR T N q L s' ∧ s'.1 (q + 17) 384 = s.1 (q + 17) 384) ∨ (¬ OKh T L tr ∧ bdd N s')) := by
    intro z oz pr w
    exact ⟨z, pr, oJH.trn o1 oz.H, ⟨by rw [oz.2.2]; exact r1.1, by rw [oz.2.2]; exact r1.2, by rw [oz.r (h := 71) h71]; exact t1⟩, w⟩
  by_cases F2 : s2.1 58 7 = 0
  case neg =>
    have b := a2.b F2
    have J := BJ.off J1 P2
    rw [n_59 (d := d + 5) J b, bN_s, xV_71, n_63 (d := d + 5) J b, bN_s, xV_71, n_64 (d := d + 5) J b, bN_s, xg_71_0, xV_58, j_fineB b, bI_s, if_pos rfl, n_65b (d := d + 5) J b] at pre
    exact fin s2 P2 pre (Or.inr ⟨fun k => F2 (a3.mpr ⟨f1.2, k.1⟩), b⟩)
  have ka := (a3.mp F2).2
  have X2 := JX.of (B1.Ja a4) (a5 F2)
  have D2 : RDR L s2 := (B1.Ja a4).2.2.2.2.2.2.2
  -- (b)
  obtain ⟨s3, b1, b2', b3, b4, b5⟩ := x_59 (d := d + 3) zi (tr := tr) X2 (by rw [P2.r (by omega)]; exact t1) D2 a2 (fun j hj => by rw [a4.1 (q + 5) j (by omega), i1r _ (by omega)]; exact (zr j hj).1)
  rw [b1, bN_s, xV_71] at pre
  have j3 : oJ q s2 s3 := b4.J (by omega)
  have P3 : oJP q s1 s3 := P2.tr j3.P
  have X3 := X2.oJ j3
  have D3 := D2.oJ z4 j3
  by_cases F3 : s3.1 58 7 = 0
  case neg =>
    have b := b2'.b F3
    have J := BJ.off J1 P3
    rw [n_63 (d := d + 5) J b, bN_s, xV_71, n_64 (d := d + 5) J b, bN_s, xg_71_0, xV_58, j_fineB b, bI_s, if_pos rfl, n_65b (d := d + 5) J b] at pre
    exact fin s3 P3 pre (Or.inr ⟨fun k => F3 (b3.mpr ⟨F2, k.2.1⟩), b⟩)
  have kb := (b3.mp F3).2
  have A3 : ABK T L q s3 := b5 F3
  -- a CLASS above itself
  obtain ⟨s4, c1, c2, c3, c4⟩ := x_63 (d := d + 4) zi X3 D3 A3 b2'
  rw [c1, bN_s, xV_71] at pre
  have P4 : oJP q s1 s4 := P3.tr c4.P
  have X4 := X3.o58 c4
  have D4 : RDR L s4 := by unfold RDR; rw [c4.r (by decide), c4.r (by decide), c4.r (by decide)]; exact D3
  have A4 : ABK T L q s4 := by unfold ABK; rw [c4.r (by omega)]; exact A3
  by_cases F4 : s4.1 58 7 = 0
  case neg =>
    have b := c2.b F4
    have J := BJ.off J1 P4
    rw [n_64 (d := d + 5) J b, bN_s, xg_71_0, xV_58, j_fineB b, bI_s, if_pos rfl, n_65b (d := d + 5) J b] at pre
    exact fin s4 P4 pre (Or.inr ⟨fun k => F4 (c3.mpr ⟨F3, k.2.2.1⟩), b⟩)
  have kr := (c3.mp F4).2
  have Ac : ACY T N L := ⟨z3, noR_of kr⟩
  -- (c)
  obtain ⟨s5, e1, e2, e3, e4, e5⟩ := x_64 (d := d + 4) zi X4 D4 (fun j hj => by rw [P4.r (by omega), i1r _ (by omega)]; exact (zr j hj).2.2.1) c2
  rw [e1, bN_s, xg_71_0, xV_58] at pre
  have j5 : oJ q s4 s5 := e4.J (by omega)
  have P5 : oJP q s1 s5 := P4.tr j5.P
  have X5 := X4.oJ j5
  have D5 := D4.oJ z4 j5
  have A5 : ABK T L q s5 := by unfold ABK; rw [e4.r (by omega) (by omega)]; exact A4
  by_cases F5 : s5.1 58 7 = 0
  case neg =>
    have b := e2.b F5
    have J := BJ.off J1 P5
    rw [j_fineB b, bI_s, if_pos rfl, n_65b (d := d + 5) J b] at pre
    exact fin s5 P5 pre (Or.inr ⟨fun k => F5 (e3.mpr ⟨F4, k.2.2.2.1⟩), b⟩)
  have kc := (e3.mp F5).2
  have I5 := e5 F5
  obtain ⟨c5, hc5, f5⟩ := e2.f F5
  rw [j_fine f5, bI_s, if_neg (by decide), xg_71_2, X5.2.2.2.2.2.1.1, yV z4] at pre
  have q35 : ∀ h, h = q + 8 ∨ h = q + 11 ∨ h = q + 12 ∨ h = q + 7 ∨ h = q + 19 ∨ h = q + 17 → s5.1 h = s.1 h := by
    intro h hh
    rw [e4.r (by omega) (by omega), c4.r (by omega), b4.r (by omega) (by omega), funext fun j => a4.1 h j (by omega), i1r h (by omega)]
  -- the views
  obtain ⟨s6, g1, g2, g3, g4⟩ := x_110 (d := d + 4) Ac z4 X5.2.2.2.2.2.2.2 X5.2.2.2.2.2.2.1 A5 (fun j hj => by rw [q35 _ (by omega)]; exact zv j hj)
  rw [g1, bN_s, xg_71_2] at pre
  have j6 : oJ q s5 s6 := g2.J (by omega)
  have X6 := X5.oJ j6
  have V6 : VWS T L q s6 := g3
  have M6 : RDM T N q L s6 := by
    have M1 : RDM T N q L s1 := by
      unfold RDM
      rw [i1r _ (by omega), i1r _ (by omega), i1r _ (by omega), i1r _ (by omega), i1r 68 (by decide), i1r 69 (by decide), i1r _ (by omega), i1r _ (by omega), l1]
      exact zM
    have M2 : RDM T N q L s2 := by
      have r : ∀ h, ¬ h = 58 → s2.1 h = s1.1 h := fun h hh => funext fun j => a4.1 h j (fun x => hh x.1)
      have l : ∀ h, ¬ h = 72 → ¬ h = 73 → s2.2.1 h = s1.2.1 h := fun h x y => funext fun j => a4.2.1 h j (by omega)
      unfold RDM
      rw [r _ (by omega), r _ (by omega), r _ (by omega), r _ (by omega), r 68 (by decide), r 69 (by decide), r _ (by omega), r _ (by omega), l _ (by omega) (by omega), l 62 (by omega) (by omega)]
      exact M1
    have jc : oJ q s3 s4 := offG.mono c4 (fun _ _ h => Or.inl h) (fun _ _ h => h.elim)
    exact (((M2.oJ z4 j3).oJ z4 jc).oJ z4 j5).oJ z4 j6
  have h24 : ∀ a, oflL L a ≤ 24 := by
    intro a
    unfold oflL
    cases hD : L[a]? with
    | none => show 0 ≤ 24; omega
    | some D =>
      have hl := (List.getElem?_eq_some_iff.mp hD).1
      have := (zM.2.2.2.1 a hl).1
      unfold mcL at this
      rw [hD] at this
      have := cnt_le false D.2
      dsimp only at *
      omega
  have q36 : ∀ h, h = q + 8 ∨ h = q + 11 ∨ h = q + 7 ∨ h = q + 19 ∨ h = q + 17 → s6.1 h = s.1 h := by
    intro h hh
    rw [g2.r (by omega) (by omega), q35 h (by omega)]
  -- FIELDS
  obtain ⟨s7, k1, k2, k3, k4, k5, k6⟩ := lq_113 (d := d + 5) (M := nMem L) (hm := hmM L) (mS := mSM L) (nu := nuM L) z3 z4 h24 (fun c => ofl_fld z3) L.length 0 mjN s6 (by omega) (by have := mjN_v; omega) X6.2.2.2.2.2.2.2 V6 ⟨M6.2.1, M6.2.2.1, fun m hm => ⟨(M6.2.2.2.2 m hm).1, by have := (M6.2.2.2.2 m hm).2.1; omega, (M6.2.2.2.2 m hm).2.2.2.2.2.1⟩⟩ (fun m hm => (M6.2.2.2.2 m hm).2.1) (fun a ha => by rw [q36 _ (by omega)]; exact (zr a ha).2.2.2) (fun j hj => absurd hj (by omega)) (fun j _ hj => by rw [q36 _ (by omega)]; exact (zr j hj).2.1) (fun j hj => by rw [q36 _ (by omega)]; exact zn j hj)
  have e113 : mjF (d + 7) 113 [.ref q] (mjW0 s6) = some (none, mjW0 s7) := by
    rw [e_113]
    unfold f_113 b_113_0
    exact k1
  rw [X6.2.2.2.2.2.1.1, yV z4, e113, bN_s, xg_71_2] at pre
  have X7 := X6.oJ k2
  have I7 : INP q s7 (inL L) (ipT T L) := by
    unfold INP
    rw [k3 _ (by omega) (by omega), k3 _ (by omega) (by omega), g2.r (by omega) (by omega), g2.r (by omega) (by omega)]
    exact I5
  -- what is known
  obtain ⟨s8, m1, m2, m3, m4⟩ := x_115 (d := d + 4) z3 z4 X7.2.2.2.2.2.2.2 X7.2.2.2.2.2.2.1 I7 (fun j hj => by rw [k3 _ (by omega) (by omega), q36 _ (by omega)]; exact zk j hj)
  rw [X7.2.2.2.2.2.1.1, yV z4, m1, bN_s] at pre
  have j8 : oJ q s7 s8 := m2.J (by omega)
  have X8 := X7.oJ j8
  have r58 : oJ q s5 s8 := j6.tr (k2.tr j8)
  have A8 : ABK T L q s8 := by unfold ABK; rw [m2.r (by omega) (by omega), k3 _ (by omega) (by omega), g2.r (by omega) (by omega)]; exact A5
  have I8 : INP q s8 (inL L) (ipT T L) := by unfold INP; rw [m2.r (by omega) (by omega), m2.r (by omega) (by omega)]; exact I7
  have V8 : VWS T L q s8 := by unfold VWS; rw [m2.r (by omega) (by omega), k3 _ (by omega) (by omega)]; exact V6
  have M8 : RDM T N q L s8 := (M6.oJ z4 k2).oJ z4 j8
  have D8 : RDR L s8 := D5.oJ z4 r58
  have e58 : s8.1 58 = s5.1 58 := by rw [m4, k3 58 (by omega) (by omega), g4]
  have g8 : GB N s8 := e2.cg e58
  have F8 : s8.1 58 7 = 0 := by rw [e58]; exact F5
  have P8 : oJP q s1 s8 := P5.tr r58.P
  unfold b_54_65 at pre
  -- (d)
  obtain ⟨s9, n1, n2, n3, n4, n5⟩ := x_66 (d := d + 1) zm zi (tr := tr) X8 D8 A8 M8 (by rw [P8.r (by omega)]; exact t1) m3 I8 g8
  rw [xV_71, n1, bN_s, xV_71] at pre
  have P9 : oJP q s1 s9 := P8.tr n4.J.P
  by_cases F9 : s9.1 58 7 = 0
  case neg =>
    have b := n2.b F9
    have J := BJ.off J1 P9
    rw [n_70 (d := d + 5) J b, bN_s, xg_71_0, xV_58, j_fineB b, bI_s, if_pos rfl] at pre
    exact fin s9 P9 pre (Or.inr ⟨fun k => F9 (n3.mpr ⟨F8, k.2.2.2.2.1⟩), b⟩)
  have kd := (n3.mp F9).2
  have Y9 := n5 F9
  have X9 := X8.oJ n4.J
  have A9 : ABK T L q s9 := by unfold ABK; rw [n4.r (by omega) (by omega) (by omega)]; exact A8
  have V9 : VWS T L q s9 := by unfold VWS; rw [n4.r (by omega) (by omega) (by omega)]; exact V8
  have M9 := M8.oJ z4 n4.J
  -- (e)
  obtain ⟨sA, p1, p2, p3, p4⟩ := lq_70 (d := d + 2) zm Ac (nMem L) 0 mjN s9 (by omega) (by have := zM.2.2.1; have := mjN_v; omega) X9 A9 M9 V9 Y9 n2
  have e70 : mjF (d + 7) 70 [.ref 71] (mjW0 s9) = some (none, mjW0 sA) := by
    rw [e_70]
    unfold f_70 b_70_0
    exact p1
  rw [e70, bN_s, xg_71_0, xV_58] at pre
  have PA : oJP q s1 sA := P9.tr p4.P
  by_cases FA : sA.1 58 7 = 0
  case neg =>
    have b := p2.b FA
    rw [j_fineB b, bI_s, if_pos rfl] at pre
    exact fin sA PA pre (Or.inr ⟨fun k => FA (p3.mpr ⟨F9, fun j _ hj => k.2.2.2.2.2 j hj⟩), b⟩)
  have ke : ∀ m, m < nMem L → OKe T L m := fun m hm => (p3.mp FA).2 m (by omega) hm
  obtain ⟨cA, hcA, fA⟩ := p2.f FA
  have XA := X9.o58 p4
  rw [j_fine fA, bI_s, if_neg (by decide), xg_71_2, XA.2.2.2.2.2.1.1, yV z4] at pre
  have VA : VWS T L q sA := by unfold VWS; rw [p4.r (by omega)]; exact V9
  have jA : oJ q s9 sA := offG.mono p4 (fun _ _ h => Or.inl h) (fun _ _ h => h.elim)
  have MA := M9.oJ z4 jA
  have YA : ∀ m, m < nMem L → TYr T L q sA m := fun m hm => by unfold TYr; rw [p4.r (by omega), p4.r (by omega)]; exact Y9 m hm
  have UA : NUr T L q sA := fun m hm => by
    refine ⟨?_, num_lt z3 h24 (fun c hc => (zM.2.2.2.1 c hc).1) hm (zM.2.2.2.2 m hm).2.1⟩
    rw [p4.r (by omega), n4.r (by omega) (by omega) (by omega), m2.r (by omega) (by omega), k6 m hm]
    rfl
  obtain ⟨sB, t1', t2, t3⟩ := x_120 (d := d + 5) z3 z4 XA.2.2.2.2.2.2.2 MA VA YA UA (fun j hj => by
    rw [p4.l, n4.2.1 (q + 13) j (by omega), m2.l, k4, g2.l, e4.l, c4.l, b4.l, a4.2.1 (q + 13) j (by omega), l1]; exact zo j hj)
  rw [t1', bN_s] at pre
  have ei := t2.ii
  have PB : oJP q s1 sB := PA.tr (offG.mono t2 (fun _ _ h => h.elim) (fun _ _ h => Or.inr (Or.inr (Or.inr h))))
  refine fin sB PB pre (Or.inl ⟨⟨ka, kb, kr, kc, kd, ke⟩, ⟨cA, hcA, ?_⟩, ?_, ?_⟩)
  · unfold fne; rw [ei]; exact fA
  · have XB : JX T N q L sB := XA.oJ (offG.mono t2 (fun _ _ h => h.elim) (fun _ _ h => Or.inr h))
    refine ⟨XB, ?_, ?_, ?_, fun j hj => ?_, ?_, ?_, ?_, t3⟩
    · unfold ABK; rw [ei, p4.r (by omega)]; exact A9
    · unfold INP; rw [ei, p4.r (by omega), p4.r (by omega), n4.r (by omega) (by omega) (by omega), n4.r (by omega) (by omega) (by omega)]; exact I8
    · unfold VWS; rw [ei]; exact VA
    · rw [ei, p4.r (by omega), n4.r (by omega) (by omega) (by omega), m2.r (by omega) (by omega)]; exact k5 j hj
    · unfold NUr; rw [ei]; exact UA
    · unfold KNW; rw [ei, p4.r (by omega), n4.r (by omega) (by omega) (by omega)]; exact m3
    · intro m hm; unfold TYr; rw [ei]; exact YA m hm
  · rw [ei, p4.r (by omega), n4.1 (q + 17) 384 (by unfold c58; omega), m2.r (by omega) (by omega), k3 _ (by omega) (by omega), q36 _ (by omega)]
end MJA22
end
section
/-! ===== (f): how BLOCKS are judged, over the orders ===== -/
/-- the FIELD (false) or METHOD (true) of that NAME that CLASS c has -/
def memT (T : TT) (L : List CD) (c : Nat) (k : Int64) (isM : Bool) : Option Nat := (anc (upT T L) 16 (some c)).findSome? (fun a => match omT T L a k with
  | some m => if mSM L m = isM then some m else none
  | none => none)
/-- a MEMBER that has this in a TYPE -/
def hidM (T : TT) (L : List CD) (m : Nat) : Bool := hasT (tyM T L m) || anyB (fun i => hasT (pyT T L m i)) (psM L m).length
def fitT (T : TT) (L : List CD) (t w : Nat) : Bool := match t, w with
  | 1, w => decide (¬ w = 0)
  | k + 2, w + 2 => (match vwT (nmL L) (abT T L) (cK k) (cK w) with
    | some v => decide (stand (nmL L) v k = w)
    | none => false)
  | t, w => decide (t = w)
/-- the OWNERS of an E of KIND k as those of the CLASS in which MEMBER m is told -/
def seenT (T : TT) (L : List CD) (k m : Nat) : Nat := match vwT (nmL L) (abT T L) (cK k) (hmM L m) with
  | some v => stand (nmL L) v k
  | none => 0
abbrev Ins : Type := Int32 × Int32 × Int32
/-- TYPES (alone?) of what waits; calls that wait (METHOD, OWNERS); VARIABLES known (NAME, TYPE, number, depth); told; depth; the one that is told; what is left of = ; TYPES of the values of a RUN -/
abbrev JS : Type := List (Nat × Bool) × List (Nat × Nat) × List (Int64 × Nat × Nat × Nat) × Nat × Nat × (Int64 × Nat) × Nat × List Nat
/-- TOKENS, CLASSES, trust, KINDS' tokens by number, CLASS (none: main), what return gives, places of orders in the code -/
abbrev EV : Type := TT × List CD × Bool × (Int32 → Nat) × Option Nat × Nat × (Nat → Nat)
def opr (a : Int32) : Int32 := if a = 37 then 21 else if a = 42 then 19 else if a = 43 then 17 else if a = 45 then 18 else if a = 47 then 20 else if a = 60 then 22 else if a = 257 then 23 else 24
def vsK (vs : List (Int64 × Nat × Nat × Nat)) (n : Int64) : Option (Int64 × Nat × Nat × Nat) := vs.find? (fun e => decide (e.1 = n))
/-- the KIND of an order, if it may stand there -/
def kdE (E : EV) (a : Int32) : Option Nat := match kdT E.1 E.2.1 E.2.2.2.2.1 false (E.2.2.2.1 a) with
  | some k => if (E.2.2.1 || nsT E.1 E.2.1 E.2.2.2.2.1 k) = true then some k else none
  | none => none
/-- a TYPE of an order (-1: int) -/
def tyE (E : EV) (a : Int32) : Option Nat := if a = -1 then some 0 else (kdE E a).map (· + 2)
/-- the FIELD or METHOD that is asked for -/
def prtE (E : EV) (t : Nat × Bool) (n : Int64) (isM : Bool) : Option (Nat × Nat) := match t.1 with
  | k + 2 => (match memT E.1 E.2.1 (cK k) n isM with
    | some m => if (!t.2 && hidM E.1 E.2.1 m) = true then none else some (m, seenT E.1 E.2.1 k m)
    | none => none)
  | _ => none
def jpush (j : JS) (t : Nat) (al : Bool) (rs : List Nat) : JS := ((t, al) :: j.1, j.2.1, j.2.2.1, j.2.2.2.1, j.2.2.2.2.1, j.2.2.2.2.2.1, j.2.2.2.2.2.2.1, rs)
def jst (j : JS) (st : List (Nat × Bool)) (rs : List Nat) : JS := (st, j.2.1, j.2.2.1, j.2.2.2.1, j.2.2.2.2.1, j.2.2.2.2.2.1, j.2.2.2.2.2.2.1, rs)
def jRS (j : JS) : List Nat := j.2.2.2.2.2.2.2
def jrow (E : EV) (r : Row) (j : JS) : Option (JS × List Ins) :=
  if r.1 = 3 then some (jpush j 0 false (0 :: jRS j), [(0, r.2.2.1, -1)])
  else if r.1 = 4 then some (jpush j 1 false (1 :: jRS j), [(0, 0, -1)])
  else if r.1 = 5 then (match E.2.2.2.2.1 with
    | none => none
    | some c => some (jpush j (own (nmL E.2.1) c + 2) true ((own (nmL E.2.1) c + 2) :: jRS j), [(3, 0, -1)]))
  else if r.1 = 6 then (match vsK j.2.2.1 r.2.2.2.2 with
    | none => none
    | some e => some (jpush j e.2.1 false (e.2.1 :: jRS j), [(1, nI e.2.2.1, -1)]))
  else if r.1 = 15 then (match vsK j.2.2.1 r.2.2.2.2 with
    | none => none
    | some e => some (((e.2.1, false) :: j.1, j.2.1, j.2.2.1, j.2.2.2.1, j.2.2.2.2.1, j.2.2.2.2.2.1, e.2.2.1, jRS j), []))
  else if r.1 = 7 then (match kdE E r.2.2.1 with
    | none => none
    | some k => some (jpush j (k + 2) false ((k + 2) :: jRS j), [(14, nI k, r.2.1)]))
  else if r.1 = 30 then (match j.1 with
    | t :: st => some (jst j ((t.1, false) :: st) (jRS j), [])
    | [] => none)
  else if r.1 = 8 then (match j.1 with
    | t :: _ => if t.1 = 0 then some (j, [(16, 0, r.2.1)]) else none
    | [] => none)
  else if r.1 = 9 then (match j.1 with
    | t2 :: t1 :: st => if (if r.2.2.1 = 257 ∨ r.2.2.1 = 258 then (t1.1 = 0 ↔ t2.1 = 0) else (t1.1 = 0 ∧ t2.1 = 0)) then some (jst j ((0, false) :: st) (0 :: (jRS j).drop 2), [(opr r.2.2.1, 0, r.2.1)]) else none
    | _ => none)
  else if r.1 = 10 then (match j.1 with
    | t :: st => (match prtE E t r.2.2.2.2 false with
      | none => none
      | some p => some (jst j ((sty (nmL E.2.1) (tyM E.1 E.2.1 p.1) p.2, false) :: st) (sty (nmL E.2.1) (tyM E.1 E.2.1 p.1) p.2 :: (jRS j).drop 1), [(12, nI (numM E.1 E.2.1 p.1), r.2.1)]))
    | [] => none)
  else if r.1 = 16 then (match j.1 with
    | t :: st => (match prtE E t r.2.2.2.2 false with
      | none => none
      | some p => some (((sty (nmL E.2.1) (tyM E.1 E.2.1 p.1) p.2, false) :: st, j.2.1, j.2.2.1, j.2.2.2.1, j.2.2.2.2.1, j.2.2.2.2.2.1, numM E.1 E.2.1 p.1, jRS j), []))
    | [] => none)
  else if r.1 = 11 then (match j.1 with
    | t :: st => (match prtE E t r.2.2.2.2 true with
      | none => none
      | some p => if nI (psM E.2.1 p.1).length = r.2.2.2.1 then some ((st, p :: j.2.1, j.2.2), []) else none)
    | [] => none)
  else if r.1 = 12 then (match j.1, j.2.1 with
    | t :: st, p :: _ => if fitT E.1 E.2.1 t.1 (sty (nmL E.2.1) (pyT E.1 E.2.1 p.1 r.2.2.1.toNatClampNeg) p.2) = true then some (jst j st (jRS j), []) else none
    | _, _ => none)
  else if r.1 = 13 then (match j.2.1 with
    | p :: pd => some (((sty (nmL E.2.1) (tyM E.1 E.2.1 p.1) p.2, false) :: j.1, pd, j.2.2.1, j.2.2.2.1, j.2.2.2.2.1, j.2.2.2.2.2.1, j.2.2.2.2.2.2.1, sty (nmL E.2.1) (tyM E.1 E.2.1 p.1) p.2 :: (jRS j).drop ((psM E.2.1 p.1).length + 1)), [(13, nI p.1, r.2.1)])
    | [] => none)
  else if r.1 = 14 then (match j.1 with
    | t :: st => (match kdE E r.2.2.1 with
      | none => none
      | some k => if t.1 = 0 then none else some (jst j ((k + 2, false) :: st) ((k + 2) :: (jRS j).drop 1), [(15, nI k, r.2.1)]))
    | [] => none)
  else if r.1 = 17 then (match j.1 with
    | t2 :: t1 :: st => if fitT E.1 E.2.1 t2.1 t1.1 = true then some (jst j st ((jRS j).drop 1), [(2, nI j.2.2.2.2.2.2.1, -1)]) else none
    | _ => none)
  else if r.1 = 18 then (match j.1 with
    | t2 :: t1 :: st => if fitT E.1 E.2.1 t2.1 t1.1 = true then some (jst j st ((jRS j).drop 2), [(4, nI j.2.2.2.2.2.2.1, r.2.2.2.1)]) else none
    | _ => none)
  else if r.1 = 19 then (match tyE E r.2.2.1 with
    | none => none
    | some t => if vsK j.2.2.1 r.2.2.2.2 = none then some ((j.1, j.2.1, j.2.2.1, j.2.2.2.1, j.2.2.2.2.1, (r.2.2.2.2, t), j.2.2.2.2.2.2), []) else none)
  else if r.1 = 20 then (match j.1 with
    | t :: st => if fitT E.1 E.2.1 t.1 j.2.2.2.2.2.1.2 = true then some ((st, j.2.1, j.2.2.1 ++ [(j.2.2.2.2.2.1.1, j.2.2.2.2.2.1.2, j.2.2.2.1, j.2.2.2.2.1)], j.2.2.2.1 + 1, j.2.2.2.2.1, j.2.2.2.2.2.1, j.2.2.2.2.2.2.1, (jRS j).drop 1), [(2, nI j.2.2.2.1, -1)]) else none
    | [] => none)
  else if r.1 = 21 then (match j.1 with
    | t :: st => if t.1 = 0 then some (jst j st ((jRS j).drop 1), [(7, nI (E.2.2.2.2.2.2 r.2.2.1.toNatClampNeg), -1)]) else none
    | [] => none)
  else if r.1 = 24 then (match j.1 with
    | t :: st => if t.1 = 0 then some (jst j st ((jRS j).drop 1), [(8, 0, -1)]) else none
    | [] => none)
  else if r.1 = 28 then (match j.1 with
    | t :: st => if fitT E.1 E.2.1 t.1 E.2.2.2.2.2.1 = true then some (jst j st ((jRS j).drop 1), [(9, 0, -1)]) else none
    | [] => none)
  else if r.1 = 25 then (match j.1 with
    | _ :: st => some (jst j st ((jRS j).drop 1), [(5, 0, -1)])
    | [] => none)
  else if r.1 = 26 then some ((j.1, j.2.1, j.2.2.1, j.2.2.2.1, j.2.2.2.2.1 + 1, j.2.2.2.2.2), [])
  else if r.1 = 27 then some ((j.1, j.2.1, j.2.2.1.filter (fun e => decide (¬ e.2.2.2 = j.2.2.2.2.1)), j.2.2.2.1, j.2.2.2.2.1 - 1, j.2.2.2.2.2), [])
  else if r.1 = 1 then some (j, [(10, 0, r.2.1)])
  else if r.1 = 2 then some (j, [(11, 0, -1)])
  else if r.1 = 22 then some (j, [(6, nI (E.2.2.2.2.2.2 r.2.2.1.toNatClampNeg), -1)])
  else if r.1 = 23 then some (j, [(6, nI (E.2.2.2.2.2.2 r.2.2.1.toNatClampNeg), -1)])
  else none
/-- orders one behind the other -/
def jrun (E : EV) : List Row → JS → Option (JS × List Ins)
  | [], j => some (j, [])
  | r :: rs, j => match jrow E r j with
    | none => none
    | some (j1, c1) => match jrun E rs j1 with
      | none => none
      | some (j2, c2) => some (j2, c1 ++ c2)
theorem jrun_app (E : EV) : ∀ (a b : List Row) (j : JS), jrun E (a ++ b) j = match jrun E a j with
    | none => none
    | some (j1, c1) => match jrun E b j1 with
      | none => none
      | some (j2, c2) => some (j2, c1 ++ c2)
  | [], b, j => by
    show jrun E b j = match jrun E b j with
      | none => none
      | some (j2, c2) => some (j2, [] ++ c2)
    cases h : jrun E b j with
    | none => rfl
    | some x => rfl
  | r :: a, b, j => by
    show (match jrow E r j with
      | none => none
      | some (j1, c1) => match jrun E (a ++ b) j1 with
        | none => none
        | some (j2, c2) => some (j2, c1 ++ c2)) = match (match jrow E r j with
      | none => none
      | some (j1, c1) => match jrun E a j1 with
        | none => none
        | some (j2, c2) => some (j2, c1 ++ c2)) with
      | none => none
      | some (j1, c1) => match jrun E b j1 with
        | none => none
        | some (j2, c2) => some (j2, c1 ++ c2)
    cases h : jrow E r j with
    | none => rfl
    | some x =>
      obtain ⟨j1, c1⟩ := x
      dsimp only
      rw [jrun_app E a b j1]
      cases h2 : jrun E a j1 with
      | none => rfl
      | some y =>
        obtain ⟨j2, c2⟩ := y
        dsimp only
        cases h3 : jrun E b j2 with
        | none => rfl
        | some z =>
          obtain ⟨j3, c3⟩ := z
          dsimp only
          rw [List.append_assoc]
theorem jrun_1 (E : EV) (r : Row) (j : JS) : jrun E [r] j = jrow E r j := by
  show (match jrow E r j with
    | none => none
    | some (j1, c1) => some (j1, c1 ++ [])) = _
  cases h : jrow E r j with
  | none => rfl
  | some x =>
    obtain ⟨j1, c1⟩ := x
    dsimp only
    rw [List.append_nil]
end
