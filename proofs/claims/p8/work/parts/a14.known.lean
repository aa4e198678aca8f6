/-! ===== what is known of OWNERS ===== -/
def anyB (g : Nat → Bool) : Nat → Bool
  | 0 => false
  | n + 1 => anyB g n || g n
/-- told: a IN b -/
def kn0 (nm : Nat) (iN : Nat) (ip : Nat → Nat × Nat) (a b : Nat) : Bool := decide (a = b) || decide (b = 5) || (decide (a = 6) && decide (b = 0)) || (decide (a = 0) && decide (b < nm)) || anyB (fun j => decide (ip j = (a, b))) iN
def clo (w : Nat → Nat → Bool) : Nat → Nat → Nat → Bool
  | 0 => w
  | m + 1 => fun a b => clo w m a b || (clo w m a m && clo w m m b)
/-- the rows of what is known in CLASS c -/
def KNr (q c : Nat) (s : mjSt3) (w : Nat → Nat → Bool) : Prop := ∀ a, a < 7 → ∃ v, v < 128 ∧ s.1 (q + 11) (7 * c + a) = nI v ∧ ∀ b, b < 7 → v.testBit b = w a b
/-- CLASS c's rows alone may change -/
def oKn (q c : Nat) : mjSt3 → mjSt3 → Prop := offG (fun h j => h = q + 11 ∧ 7 * c ≤ j ∧ j < 7 * c + 7) (fun _ _ => False)
section MJA14
variable {d q c x n : Nat} {s s' : mjSt3} {w w' : Nat → Nat → Bool}
theorem KNr.cg (k : KNr q c s w) (e : ∀ a b, a < 7 → b < 7 → w a b = w' a b) : KNr q c s w' := by
  intro a ha
  obtain ⟨v, v1, v2, v3⟩ := k a ha
  exact ⟨v, v1, v2, fun b hb => (v3 b hb).trans (e a b ha hb)⟩
theorem seven (h : c < 16) {a : Nat} : nI c * (7 : Int32) + nI a = nI (7 * c + a) := by rw [show (7 : Int32) = nI 7 from rfl, nI_mul, nI_add, Nat.mul_comm]
theorem oKn.r (o : oKn q c s s') {h : Nat} (h1 : ¬ h = q + 11) : s'.1 h = s.1 h := funext fun j => o.1 h j (fun e => h1 e.1)
theorem oKn.l (o : oKn q c s s') : s'.2 = s.2 := by
  have a : s'.2.1 = s.2.1 := funext fun h => funext fun j => o.2.1 h j (fun e => e)
  exact Prod.ext a o.2.2
/-- a row put into another -/
theorem kn_or (k : KNr q c s w) {a v : Nat} (ha : a < 7) (hv : v < 128) {f : Nat → Bool} (hf : ∀ b, b < 7 → v.testBit b = f b) : ∃ v0, s.1 (q + 11) (7 * c + a) = nI v0 ∧ KNr q c (uI s (q + 11) (upd (s.1 (q + 11)) (7 * c + a) (nI (v0 ||| v)))) (fun a' b => w a' b || (decide (a' = a) && f b)) ∧ oKn q c s (uI s (q + 11) (upd (s.1 (q + 11)) (7 * c + a) (nI (v0 ||| v)))) := by
  obtain ⟨v0, h1, h2, h3⟩ := k a ha
  refine ⟨v0, h2, fun a' ha' => ?_, offG.w ⟨rfl, by omega, by omega⟩⟩
  by_cases e : a' = a
  · subst e
    refine ⟨v0 ||| v, Nat.or_lt_two_pow (n := 7) h1 hv, by rw [uI_same, upd_g, if_pos rfl], fun b hb => ?_⟩
    rw [Nat.testBit_or, h3 b hb, hf b hb]
    simp
  · obtain ⟨u, u1, u2, u3⟩ := k a' ha'
    refine ⟨u, u1, by rw [uI_same, upd_g, if_neg (by omega)]; exact u2, fun b hb => ?_⟩
    rw [u3 b hb]
    simp [e]
theorem x_117 (hq : isP q) (hc : c < 16) (k : KNr q c s w) {a b : Nat} (ha : a < 7) (hb : b < 7) : ∃ s', mjF (d + 1) 117 [.ref q, .int (nI c), .int (nI a), .int (nI b)] (mjW0 s) = some (none, mjW0 s') ∧ KNr q c s' (fun a' b' => w a' b' || (decide (a' = a) && decide (b = b'))) ∧ oKn q c s s' := by
  obtain ⟨v0, h1, h2, h3⟩ := kn_or k (v := 2 ^ b) ha (by
    have : 2 ^ b < 2 ^ 7 := Nat.pow_lt_pow_right (by omega) hb
    omega) (f := fun b' => decide (b = b')) (fun b' _ => Nat.testBit_two_pow)
  refine ⟨_, ?_, h2, h3⟩
  rw [e_117]
  unfold f_117 b_117_0
  rw [yg_11 hq, seven hc, wya_11 hq (by omega), wys_11 hq (by omega), h1, show (1 : Int32) <<< (nI b &&& 31) = nI (2 ^ b) by
    rw [show (1 : Int32) = nI 1 from rfl, pk_shlN _ b (sh_l b (by omega)) (by
      have : 2 ^ b < 2 ^ 7 := Nat.pow_lt_pow_right (by omega) hb
      omega), Nat.one_mul], nI_or]
theorem L116a_S (R : mjR) (n a : Nat) (b e : Int32) (hp : mjH) : L_116_2 R (n + 1) a b e hp = b_116_2 R (L_116_2 R n) a b e hp := rfl
theorem L116b_S (R : mjR) (n a : Nat) (b e : Int32) (hp : mjH) : L_116_38 R (n + 1) a b e hp = b_116_38 R (L_116_38 R n) a b e hp := rfl
theorem L116c_S (R : mjR) (n a : Nat) (b e : Int32) (hp : mjH) : L_116_63 R (n + 1) a b e hp = b_116_63 R (L_116_63 R n) a b e hp := rfl
theorem lq_116c (hq : isP q) (hc : c < 16) {iN : Nat → Nat} {ip : Nat → Nat → Nat × Nat} {w0 : Nat → Nat → Bool} : ∀ (r i m : Nat) (s : mjSt3), i + r = iN c → r < m → INP q s iN ip → KNr q c s (fun a b => w0 a b || anyB (fun j => decide (ip c j = (a, b))) i) → ∃ s', L_116_63 (mjF (d + 1)) m q (nI c) (nI i) (mjW0 s) = some (none, mjW0 s') ∧ KNr q c s' (fun a b => w0 a b || anyB (fun j => decide (ip c j = (a, b))) (iN c)) ∧ oKn q c s s'
  | 0, i, m + 1, s, e, _, I, k => by
    have h8 := (I c hc).2.1
    refine ⟨s, ?_, ?_, offG.rf⟩
    · rw [L116c_S]
      unfold b_116_63
      rw [yg_3 hq, wya_3 hq hc, (I c hc).1, if_pos (nI_le (by omega) (by omega))]
    · rw [← show i = iN c by omega]; exact k
  | r + 1, i, m + 1, s, e, hr, I, k => by
    have hq' : q = 2 ∨ q = 30 := hq
    obtain ⟨i1, i2, i3⟩ := I c hc
    obtain ⟨j1, j2, j3⟩ := i3 i (by omega)
    have d7 := dv7 _ (show (ip c i).1 < 5 by omega) _ (show (ip c i).2 < 5 by omega)
    obtain ⟨z, a1, a2, a3⟩ := x_117 (d := d) hq hc k (a := (ip c i).1) (b := (ip c i).2) (by omega) (by omega)
    obtain ⟨s', b1, b2', b3⟩ := lq_116c (w0 := w0) (iN := iN) (ip := ip) hq hc r (i + 1) m z (by omega) (by omega) (by unfold INP; rw [a3.r (by omega), a3.r (by omega)]; exact I) (a2.cg (fun a b ha hb => by
      show (w0 a b || anyB _ i || _) = (w0 a b || (anyB _ i || decide (ip c i = (a, b))))
      have : (decide (ip c i = (a, b))) = (decide (a = (ip c i).1) && decide ((ip c i).2 = b)) := by
        rw [← Bool.decide_and]
        refine decide_eq_decide.mpr ⟨fun e => ?_, fun e => ?_⟩
        · rw [e]; exact ⟨rfl, rfl⟩
        · exact Prod.ext e.1.symm e.2
      rw [this, Bool.or_assoc]))
    refine ⟨s', ?_, b2', a3.tr b3⟩
    rw [L116c_S]
    unfold b_116_63
    rw [yg_3 hq, wya_3 hq hc, i1, if_neg (nI_ge (by omega) (by omega)), yg_4 hq, show nI c * (8 : Int32) + nI i = nI (8 * c + i) by rw [show (8 : Int32) = nI 8 from rfl, nI_mul, nI_add, Nat.mul_comm], wya_4 hq (by omega), j1, d7.2, d7.1, yV hq, a1, bN_s, nI_1]
    exact b1
theorem lq_116b (hq : isP q) (hc : c < 16) {nm iN : Nat → Nat} {ip : Nat → Nat → Nat × Nat} {w0 : Nat → Nat → Bool} : ∀ (r i m : Nat) (s : mjSt3), i + r = nm c → r < m → pnm q s nm → INP q s iN ip → KNr q c s (fun a b => w0 a b || (decide (a = 0) && decide (b < i))) → ∃ s', L_116_38 (mjF (d + 1)) m q (nI c) (nI i) (mjW0 s) = some (none, mjW0 s') ∧ KNr q c s' (fun a b => w0 a b || (decide (a = 0) && decide (b < nm c)) || anyB (fun j => decide (ip c j = (a, b))) (iN c)) ∧ oKn q c s s'
  | 0, i, m + 1, s, e, _, hn, I, k => by
    have h5 := (hn c hc).2
    obtain ⟨s', a1, a2, a3⟩ := lq_116c (d := d) (iN := iN) (ip := ip) (w0 := fun a b => w0 a b || (decide (a = 0) && decide (b < nm c))) hq hc (iN c) 0 mjN s (by omega) (by have := (I c hc).2.1; have := mjN_v; omega) I (k.cg (fun a b _ _ => by
      show (w0 a b || _) = (w0 a b || _ || false)
      rw [Bool.or_false, show i = nm c by omega]))
    refine ⟨s', ?_, a2, a3⟩
    rw [L116b_S]
    unfold b_116_38
    rw [yg_1 hq, wya_1 hq hc, (hn c hc).1, if_pos (nI_le (by omega) (by omega))]
    exact a1
  | r + 1, i, m + 1, s, e, hr, hn, I, k => by
    have hq' : q = 2 ∨ q = 30 := hq
    have h5 := (hn c hc).2
    obtain ⟨z, a1, a2, a3⟩ := x_117 (d := d) hq hc k (a := 0) (b := i) (by omega) (by omega)
    obtain ⟨s', b1, b2', b3⟩ := lq_116b (w0 := w0) (nm := nm) (iN := iN) (ip := ip) hq hc r (i + 1) m z (by omega) (by omega) (by unfold pnm; rw [a3.r (by omega)]; exact hn) (by unfold INP; rw [a3.r (by omega), a3.r (by omega)]; exact I) (a2.cg (fun a b _ _ => by
      try dsimp only
      have h : ((decide (a = 0) && decide (b < i)) || (decide (a = 0) && decide (i = b))) = (decide (a = 0) && decide (b < i + 1)) := by
        by_cases ea : a = 0
        · by_cases eb : i = b
          · simp [ea, eb]
          · have : decide (b < i + 1) = decide (b < i) := decide_eq_decide.mpr (by omega)
            simp [ea, eb, this]
        · simp [ea]
      rw [Bool.or_assoc, h]))
    refine ⟨s', ?_, b2', a3.tr b3⟩
    rw [L116b_S]
    unfold b_116_38
    rw [yg_1 hq, wya_1 hq hc, (hn c hc).1, if_neg (nI_ge (by omega) (by omega)), yV hq, show (0 : Int32) = nI 0 from rfl, a1, bN_s, nI_1]
    exact b1
theorem lq_116a (hq : isP q) (hc : c < 16) {nm iN : Nat → Nat} {ip : Nat → Nat → Nat × Nat} : ∀ (r x m : Nat) (s : mjSt3), x + r = 7 → r < m → pnm q s nm → INP q s iN ip → KNr q c s (fun a b => decide (a < x) && (decide (a = b) || decide (b = 5))) → ∃ s', L_116_2 (mjF (d + 1)) m q (nI c) (nI x) (mjW0 s) = some (none, mjW0 s') ∧ KNr q c s' (kn0 (nm c) (iN c) (ip c)) ∧ oKn q c s s'
  | 0, x, m + 1, s, e, _, hn, I, k => by
    have hq' : q = 2 ∨ q = 30 := hq
    obtain ⟨z, a1, a2, a3⟩ := x_117 (d := d) hq hc k (a := 6) (b := 0) (by omega) (by omega)
    obtain ⟨s', b1, b2', b3⟩ := lq_116b (d := d) (nm := nm) (iN := iN) (ip := ip) (w0 := fun a b => decide (a = b) || decide (b = 5) || (decide (a = 6) && decide (b = 0))) hq hc (nm c) 0 mjN z (by omega) (by have := (hn c hc).2; have := mjN_v; omega) (by unfold pnm; rw [a3.r (by omega)]; exact hn) (by unfold INP; rw [a3.r (by omega), a3.r (by omega)]; exact I) (a2.cg (fun a b ha _ => by
      try dsimp only
      have : decide (b < 0) = false := decide_eq_false (by omega)
      have h7 : decide (a < x) = true := decide_eq_true (by omega)
      have h0 : decide (0 = b) = decide (b = 0) := decide_eq_decide.mpr (by omega)
      rw [this, h7, h0, Bool.and_false, Bool.or_false, Bool.true_and]))
    refine ⟨s', ?_, b2', a3.tr b3⟩
    rw [L116a_S]
    unfold b_116_2
    rw [if_pos (show (7 : Int32) ≤ nI x from nI_le (a := 7) (by omega) (by omega)), yV hq, show (6 : Int32) = nI 6 from rfl, show (0 : Int32) = nI 0 from rfl, a1, bN_s]
    exact b1
  | r + 1, x, m + 1, s, e, hr, hn, I, k => by
    have hq' : q = 2 ∨ q = 30 := hq
    obtain ⟨z, a1, a2, a3⟩ := x_117 (d := d) hq hc k (a := x) (b := x) (by omega) (by omega)
    obtain ⟨y, c1, c2, c3⟩ := x_117 (d := d) hq hc a2 (a := x) (b := 5) (by omega) (by omega)
    have o2 : oKn q c s y := a3.tr c3
    obtain ⟨s', b1, b2', b3⟩ := lq_116a (nm := nm) (iN := iN) (ip := ip) hq hc r (x + 1) m y (by omega) (by omega) (by unfold pnm; rw [o2.r (by omega)]; exact hn) (by unfold INP; rw [o2.r (by omega), o2.r (by omega)]; exact I) (c2.cg (fun a b _ _ => by
      try dsimp only
      have h5 : decide (5 = b) = decide (b = 5) := decide_eq_decide.mpr (by omega)
      by_cases ea : a = x
      · subst ea
        have h1 : decide (a < a) = false := decide_eq_false (by omega)
        have h2 : decide (a < a + 1) = true := decide_eq_true (by omega)
        simp [h5]
      · have h1 : decide (a < x + 1) = decide (a < x) := decide_eq_decide.mpr (by omega)
        simp [ea, h1]))
    refine ⟨s', ?_, b2', o2.tr b3⟩
    rw [L116a_S]
    unfold b_116_2
    rw [if_neg (show ¬ (7 : Int32) ≤ nI x from nI_ge (b := 7) (by omega) (by decide)), yV hq, a1, bN_s, yV hq, show (5 : Int32) = nI 5 from rfl, c1, bN_s, nI_1]
    exact b1
theorem L118a_S (R : mjR) (n a : Nat) (b e : Int32) (hp : mjH) : L_118_2 R (n + 1) a b e hp = b_118_2 R (L_118_2 R n) a b e hp := rfl
theorem L118b_S (R : mjR) (k2 : Nat → Int32 → Int32 → mjH → mjU) (n a : Nat) (b e f : Int32) (hp : mjH) : L_118_10 R k2 (n + 1) a b e f hp = b_118_10 R k2 (L_118_10 R k2 n) a b e f hp := rfl
/-- isKnown by a CLASS's rows -/
theorem x_knr (hq : isP q) (hc : c < 16) (k : KNr q c s w) {a b : Nat} (ha : a < 7) (hb : b < 7) : mjF (d + 1) 107 [.ref q, .int (nI c), .int (nI a), .int (nI b)] (mjW0 s) = some (some (.int (b2 (w a b))), mjW0 s) := by
  obtain ⟨v, w1, w2, w3⟩ := k a ha
  rw [e_107]
  unfold f_107 b_107_0
  rw [if_neg (nI_m1 (by omega)), yg_11 hq, seven hc, wya_11 hq (by omega), w2, pk_shrN (by omega) _ b (sh_l b (by omega)), pk_andN (Nat.lt_of_le_of_lt (Nat.div_le_self _ _) (by omega)) 1 (by decide)]
  have tb : v.testBit b = decide (v / 2 ^ b % 2 = 1) := Nat.testBit_eq_decide_div_mod_eq
  rw [w3 b hb] at tb
  rw [tb]
  have m2 : v / 2 ^ b % 2 < 2 := Nat.mod_lt _ (by omega)
  by_cases g : v / 2 ^ b % 2 = 1
  · rw [if_neg (show ¬ nI (v / 2 ^ b % 2 ^ 1) = 0 by rw [show v / 2 ^ b % 2 ^ 1 = 1 from g]; decide)]
    simp [g, b2]
  · rw [if_pos (show nI (v / 2 ^ b % 2 ^ 1) = 0 by rw [show v / 2 ^ b % 2 ^ 1 = 0 from (by show v / 2 ^ b % 2 = 0; omega)]; decide)]
    simp [g, b2]
theorem lq_118b (hq : isP q) (hc : c < 16) (k2 : Nat → Int32 → Int32 → mjH → mjU) {t : Nat} (ht : t < 7) : ∀ (r x m : Nat) (s : mjSt3), x + r = 7 → r < m → KNr q c s (fun a b => w a b || (decide (a < x) && (w a t && w t b))) → ∃ s', L_118_10 (mjF (d + 1)) k2 m q (nI c) (nI t) (nI x) (mjW0 s) = k2 q (nI c) (nI (t + 1)) (mjW0 s') ∧ KNr q c s' (fun a b => w a b || (w a t && w t b)) ∧ oKn q c s s'
  | 0, x, m + 1, s, e, _, k => by
    refine ⟨s, ?_, k.cg (fun a b ha _ => ?_), offG.rf⟩
    · rw [L118b_S]
      unfold b_118_10
      rw [if_pos (show (7 : Int32) ≤ nI x from nI_le (a := 7) (by omega) (by omega)), nI_1]
    · have h7 : decide (a < x) = true := decide_eq_true (by omega)
      try dsimp only
      rw [h7, Bool.true_and]
  | r + 1, x, m + 1, s, e, hr, k => by
    have hw : (w x t || (decide (x < x) && (w x t && w t t))) = w x t := by simp
    have nxt : ∀ z, oKn q c s z → KNr q c z (fun a b => w a b || (decide (a < x + 1) && (w a t && w t b))) → L_118_10 (mjF (d + 1)) k2 (m + 1) q (nI c) (nI t) (nI x) (mjW0 s) = L_118_10 (mjF (d + 1)) k2 m q (nI c) (nI t) (nI (x + 1)) (mjW0 z) → ∃ s', L_118_10 (mjF (d + 1)) k2 (m + 1) q (nI c) (nI t) (nI x) (mjW0 s) = k2 q (nI c) (nI (t + 1)) (mjW0 s') ∧ KNr q c s' (fun a b => w a b || (w a t && w t b)) ∧ oKn q c s s' := by
      intro z oz kz pr
      obtain ⟨s', b1, b2', b3⟩ := lq_118b hq hc k2 ht r (x + 1) m z (by omega) (by omega) kz
      exact ⟨s', pr.trans b1, b2', oz.tr b3⟩
    have pre : L_118_10 (mjF (d + 1)) k2 (m + 1) q (nI c) (nI t) (nI x) (mjW0 s) = _ := L118b_S _ _ _ _ _ _ _ _
    unfold b_118_10 b_118_51 at pre
    rw [if_neg (show ¬ (7 : Int32) ≤ nI x from nI_ge (b := 7) (by omega) (by decide)), yV hq, x_knr hq hc k (by omega) ht, bI_s, hw, b2_i, nI_1] at pre
    cases h : w x t with
    | false =>
      rw [h, if_neg (by decide)] at pre
      refine nxt s offG.rf (k.cg (fun a b _ _ => ?_)) pre
      try dsimp only
      by_cases ea : a = x
      · subst ea; simp [h]
      · have h1 : decide (a < x + 1) = decide (a < x) := decide_eq_decide.mpr (by omega)
        rw [h1]
    | true =>
      obtain ⟨v, v1, v2, v3⟩ := k t ht
      obtain ⟨v0, u1, u2, u3⟩ := kn_or k (a := x) (v := v) (by omega) v1 v3
      rw [h, if_pos rfl, yg_11 hq, seven hc, wya_11 hq (by omega), yg_11 hq, seven hc, wya_11 hq (by omega), u1, v2, wys_11 hq (by omega), nI_or] at pre
      refine nxt _ u3 (u2.cg (fun a b _ _ => ?_)) pre
      try dsimp only
      by_cases ea : a = x
      · subst ea
        have hn : decide (a < a) = false := decide_eq_false (by omega)
        have hs : decide (a < a + 1) = true := decide_eq_true (by omega)
        rw [hn, hs, h, decide_eq_true rfl]
        cases w t b <;> cases decide (t < a) <;> cases w t t <;> cases w a b <;> rfl
      · have h1 : decide (a < x + 1) = decide (a < x) := decide_eq_decide.mpr (by omega)
        rw [h1, decide_eq_false ea, Bool.false_and, Bool.or_false]
theorem lq_118 (hq : isP q) (hc : c < 16) : ∀ (r t m : Nat) (s : mjSt3), t + r = 7 → r < m → KNr q c s (clo w t) → ∃ s', L_118_2 (mjF (d + 1)) m q (nI c) (nI t) (mjW0 s) = some (none, mjW0 s') ∧ KNr q c s' (clo w 7) ∧ oKn q c s s'
  | 0, t, m + 1, s, e, _, k => by
    refine ⟨s, ?_, by rw [← show t = 7 by omega]; exact k, offG.rf⟩
    rw [L118a_S]
    unfold b_118_2
    rw [if_pos (show (7 : Int32) ≤ nI t from nI_le (a := 7) (by omega) (by omega))]
  | r + 1, t, m + 1, s, e, hr, k => by
    obtain ⟨z, a1, a2, a3⟩ := lq_118b (d := d) (w := clo w t) hq hc (L_118_2 (mjF (d + 1)) m) (t := t) (by omega) 7 0 mjN s (by omega) (by have := mjN_v; omega) (k.cg (fun a b _ _ => by
      have : decide (a < 0) = false := decide_eq_false (by omega)
      rw [this, Bool.false_and, Bool.or_false]))
    obtain ⟨s', b1, b2', b3⟩ := lq_118 hq hc r (t + 1) m z (by omega) (by omega) a2
    refine ⟨s', ?_, b2', a3.tr b3⟩
    rw [L118a_S]
    unfold b_118_2
    rw [if_neg (show ¬ (7 : Int32) ≤ nI t from nI_ge (b := 7) (by omega) (by decide))]
    exact a1.trans b1
end MJA14
