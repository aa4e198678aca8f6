/-! ===== a CLASS above itself; (c): NAMES of INS ===== -/
def upT (T : TT) (L : List CD) (c : Nat) : Option Nat := (abT T L c).map cK
def ringW (up : Nat → Option Nat) (c : Nat) : Nat → Option Nat → Option Nat
  | 0, a => a
  | _ + 1, none => none
  | k + 1, some a => if a = c then some a else ringW up c k (up a)
def OKr (T : TT) (L : List CD) (c : Nat) : Prop := ¬ ringW (upT T L) c 16 (upT T L c) = some c
/-- the class's rows of KINDS behind is -/
def ABK (T : TT) (L : List CD) (q : Nat) (s : mjSt3) : Prop := ∀ j, j < 16 → s.1 (q + 5) j = if j < L.length then oI (abT T L j) else -1
def OKc (T : TT) (L : List CD) (c : Nat) : Prop := ∀ i, i < (hC L c).2.2.2.2 → ¬ nmK T L c (kyT T ((hC L c).2.2.2.1 + 4 * i)) = none ∧ ¬ nmK T L c (kyT T ((hC L c).2.2.2.1 + 4 * i + 2)) = none
def ipT (T : TT) (L : List CD) (c i : Nat) : Nat × Nat := ((nmK T L c (kyT T ((hC L c).2.2.2.1 + 4 * i))).getD 0, (nmK T L c (kyT T ((hC L c).2.2.2.1 + 4 * i + 2))).getD 0)
def inL (L : List CD) (c : Nat) : Nat := (hC L c).2.2.2.2
section MJA10
variable {T : TT} {d N q c t n e k h0 : Nat} {s s' : mjSt3} {L : List CD}
theorem ab_v (hn : HN T N L) (hc : c < L.length) (h : abT T L c = some k) : vK L k := by
  unfold abT at h
  by_cases g : (hC L c).2.2.1 = 0
  · rw [if_pos g] at h; cases h
  · rw [if_neg g] at h
    obtain ⟨_, _, _, _, _, _, v⟩ := kd_v hn (fun c' h => by cases h; exact hc) h
    exact v
theorem up_lt (hn : HN T N L) (hc : c < L.length) (h : upT T L c = some k) : k < L.length := by
  unfold upT at h
  cases g : abT T L c with
  | none => rw [g] at h; cases h
  | some a =>
    rw [g] at h
    cases h
    exact (ab_v hn hc g).cl hn
theorem x_up (hn : HN T N L) (hq : isP q) (A : ABK T L q s) (hc : c < L.length) : mjF (d + 2) 108 [.ref q, .int (nI c)] (mjW0 s) = some (some (.int (oI (upT T L c))), mjW0 s) := by
  have h16 := hn.1
  exact x_above hq (by omega) (by rw [A c (by omega), if_pos hc]) (fun k h => by have := (ab_v hn hc h).lt hn; omega)
theorem L63_S (R : mjR) (n a : Nat) (b : Int32) (hp : mjH) : L_63_2 R (n + 1) a b hp = b_63_2 R (L_63_2 R n) a b hp := rfl
theorem L63b_S (R : mjR) (k2 : Nat → Int32 → mjH → mjU) (n a : Nat) (b e f : Int32) (hp : mjH) : L_63_34 R k2 (n + 1) a b e f hp = b_63_34 R k2 (L_63_34 R k2 n) a b e f hp := rfl
theorem ring_at (hn : HN T N L) {a : Option Nat} : ∀ {r : Nat}, (∀ x, a = some x → x < L.length) → ∀ x, ringW (upT T L) c r a = some x → x < L.length := by
  intro r
  induction r generalizing a with
  | zero => intro h x e; exact h x e
  | succ r ih =>
    intro h x e
    cases a with
    | none => cases e
    | some y =>
      unfold ringW at e
      by_cases g : y = c
      · rw [if_pos g] at e; cases e; exact h _ rfl
      · rw [if_neg g] at e
        exact ih (fun z hz => up_lt hn (h y rfl) hz) x e
theorem lq_63b (X : JX T N q L s) (A : ABK T L q s) (k2 : Nat → Int32 → mjH → mjU) (hc : c < L.length) : ∀ (r i m : Nat) (a : Option Nat), i + r = 16 → r < m → (∀ x, a = some x → x < L.length) → L_63_34 (mjF (d + 2)) k2 m 71 (nI c) (oI a) (nI i) (mjW0 s) = b_63_65 (mjF (d + 2)) k2 71 (nI c) (oI (ringW (upT T L) c r a)) (mjW0 s)
  | 0, i, m + 1, a, e, _, _ => by
    rw [L63b_S]
    unfold b_63_34
    rw [if_pos (show (16 : Int32) ≤ nI i from nI_le (a := 16) (by omega) (by omega))]
    rfl
  | r + 1, i, m + 1, a, e, hr, ha => by
    obtain ⟨x1, x2, x3, x4, x5, x6, x7, x8⟩ := X
    have h16 := x3.1
    rw [L63b_S]
    unfold b_63_34
    rw [if_neg (show ¬ (16 : Int32) ≤ nI i from nI_ge (b := 16) (by omega) (by decide))]
    cases a with
    | none =>
      rw [oI_n, if_pos rfl]
      rfl
    | some x =>
      have hx := ha x rfl
      rw [oI_s, if_neg (nI_m1 (by omega))]
      by_cases g : x = c
      · rw [if_pos (show nI x = nI c by rw [g])]
        unfold ringW
        rw [if_pos g]
        rfl
      · rw [if_neg (show ¬ nI x = nI c from fun y => g ((nI_eq (by omega) (by omega)).mp y)), xg_71_2, x6.1, yV x5, x_up x3 x5 A hx, bI_s, nI_1, lq_63b ⟨x1, x2, x3, x4, x5, x6, x7, x8⟩ A k2 hc r (i + 1) m (upT T L x) (by omega) (by omega) (fun z hz => up_lt x3 hx hz)]
        have er : ringW (upT T L) c (r + 1) (some x) = if x = c then some x else ringW (upT T L) c r (upT T L x) := rfl
        rw [er, if_neg g]
theorem lq_63 (P : PFi T N L) : ∀ (r c m : Nat) (s : mjSt3), c + r = L.length → r < m → JX T N q L s → RDR L s → ABK T L q s → GB N s → ∃ s', L_63_2 (mjF (d + 2)) m 71 (nI c) (mjW0 s) = some (none, mjW0 s') ∧ GB N s' ∧ (s'.1 58 7 = 0 ↔ s.1 58 7 = 0 ∧ ∀ j, c ≤ j → j < L.length → OKr T L j) ∧ o58 s s'
  | 0, c, m + 1, s, e, _, X, D, A, g => by
    obtain ⟨x1, x2, x3, x4, x5, x6, x7, x8⟩ := X
    have h16 := x3.1
    refine ⟨s, ?_, g, ⟨fun h => ⟨h, fun a h1 h2 => absurd h1 (by omega)⟩, fun h => h.1⟩, offG.rf⟩
    rw [L63_S]
    unfold b_63_2
    rw [xg_71_2, x6.1, yg_0 x5, x8, if_pos (nI_le (by omega) (by omega))]
  | r + 1, c, m + 1, s, e, hr, X, D, A, g => by
    have X0 := X
    obtain ⟨x1, x2, x3, x4, x5, x6, x7, x8⟩ := X
    have h16 := x3.1
    have hN := x1.2.1
    have hc : c < L.length := by omega
    have hq : q = 2 ∨ q = 30 := x5
    by_cases h7 : s.1 58 7 = 0
    · obtain ⟨cu, hcu, f⟩ := g.f h7
      have pre : L_63_2 (mjF (d + 2)) (m + 1) 71 (nI c) (mjW0 s) = _ := L63_S _ _ _ _ _
      unfold b_63_2 at pre
      have lb := lq_63b (d := d) X0 A (L_63_2 (mjF (d + 2)) m) hc 16 0 mjN (upT T L c) (by omega) (by have := mjN_v; omega) (fun x hx => up_lt x3 hc hx)
      rw [xg_71_2, x6.1, yg_0 x5, x8, if_neg (nI_ge (by omega) (by omega)), xg_71_0, xV_58, j_fine f, bI_s, if_neg (by decide), xg_71_2, x6.1, yV x5, x_up x3 x5 A hc, bI_s, show (0 : Int32) = nI 0 from rfl, lb] at pre
      unfold b_63_65 b_63_88 at pre
      by_cases R : ringW (upT T L) c 16 (upT T L c) = some c
      · rw [R, oI_s, if_pos rfl, xg_71_0, xg_71_1, xg_64_4, wa_66 (by omega), xV_58, nI_1, (D c hc).2.1] at pre
        have hz : ¬ (hC L c).2.2.1 = 0 := by
          intro hz
          have e1 : upT T L c = none := by unfold upT abT; rw [if_pos hz]; rfl
          rw [e1] at R
          cases R
        have kl := ((P c hc).1 hz).2.2.2.1
        rw [if_neg hz] at pre
        obtain ⟨z, b1, b2, b3⟩ := j_atG (d := d + 1) (k := 11) (t := (hC L c).2.2.1 - 1) x1 g (by omega) (by decide)
        rw [b1, bN_s] at pre
        have Xz := X0.o58 b3
        refine ⟨z, pre.trans ?_, GB.ob b2, ⟨fun h => absurd h b2.2, fun h => absurd R (h.2 c (by omega) hc)⟩, b3⟩
        obtain ⟨m', rfl⟩ : ∃ m', m = m' + 1 := ⟨m - 1, by omega⟩
        rw [L63_S]
        unfold b_63_2
        rw [xg_71_2, Xz.2.2.2.2.2.1.1, yg_0 x5, Xz.2.2.2.2.2.2.2]
        by_cases hl : L.length ≤ c + 1
        · rw [if_pos (nI_le hl (by omega))]
        · rw [if_neg (nI_ge (by omega) (by omega)), xg_71_0, xV_58, j_fineB b2, bI_s, if_pos rfl]
      · have nR : ¬ oI (ringW (upT T L) c 16 (upT T L c)) = nI c := by
          intro y
          cases hw : ringW (upT T L) c 16 (upT T L c) with
          | none => rw [hw] at y; exact absurd y.symm (nI_m1 (by omega))
          | some x =>
            have hx := ring_at x3 (fun x hx => up_lt x3 hc hx) x hw
            rw [hw, oI_s] at y
            have := (nI_eq (by omega) (by omega)).mp y
            rw [this] at hw
            exact R hw
        rw [if_neg nR, nI_1] at pre
        obtain ⟨s', a1, a2, a3, a4⟩ := lq_63 P r (c + 1) m s (by omega) (by omega) X0 D A g
        refine ⟨s', pre.trans a1, a2, ?_, a4⟩
        rw [a3]
        constructor
        · intro ⟨u, v⟩
          refine ⟨u, fun j h1 h2 => ?_⟩
          by_cases ej : j = c
          · rw [ej]; exact R
          · exact v j (by omega) h2
        · intro ⟨u, v⟩
          exact ⟨u, fun j h1 h2 => v j (by omega) h2⟩
    · refine ⟨s, ?_, g, ⟨fun h => absurd h h7, fun h => absurd h.1 h7⟩, offG.rf⟩
      rw [L63_S]
      unfold b_63_2
      rw [xg_71_2, x6.1, yg_0 x5, x8, if_neg (nI_ge (by omega) (by omega)), xg_71_0, xV_58, j_fineB (g.b h7), bI_s, if_pos rfl]
/-- judgeCircles -/
theorem x_63 (P : PFi T N L) (X : JX T N q L s) (D : RDR L s) (A : ABK T L q s) (g : GB N s) : ∃ s', mjF (d + 3) 63 [.ref 71] (mjW0 s) = some (none, mjW0 s') ∧ GB N s' ∧ (s'.1 58 7 = 0 ↔ s.1 58 7 = 0 ∧ ∀ j, j < L.length → OKr T L j) ∧ o58 s s' := by
  obtain ⟨s', a1, a2, a3, a4⟩ := lq_63 (d := d) P L.length 0 mjN s (by omega) (by have := X.2.2.1.1; have := mjN_v; omega) X D A g
  refine ⟨s', ?_, a2, ?_, a4⟩
  · rw [e_63]
    unfold f_63 b_63_0
    exact a1
  · rw [a3]
    exact ⟨fun ⟨u, v⟩ => ⟨u, fun j hj => v j (by omega) hj⟩, fun ⟨u, v⟩ => ⟨u, fun j _ hj => v j hj⟩⟩
/-- nameInIn -/
theorem x_65 (X : JX T N q L s) (g : GB N s) (hc : c < L.length) (ht : t ≤ N) (hT : (T t).1 = 3) : ∃ s', mjF (d + 2) 65 [.ref 71, .int (nI c), .int (nI t)] (mjW0 s) = some (some (.int (oI (nmK T L c (kyT T t)))), mjW0 s') ∧ GB N s' ∧ (s'.1 58 7 = 0 ↔ s.1 58 7 = 0 ∧ ¬ nmK T L c (kyT T t) = none) ∧ o58 s s' := by
  obtain ⟨x1, x2, x3, x4, x5, x6, x7, x8⟩ := X
  have h16 := x3.1
  obtain ⟨⟨cu, hcu, fcu⟩, _⟩ := id g
  have pre : mjF (d + 2) 65 [.ref 71, .int (nI c), .int (nI t)] (mjW0 s) = _ := e_65 (d := d + 1)
  unfold f_65 b_65_0 b_65_28 at pre
  rw [xg_71_0, xV_58, j_key x1 fcu hcu ht, bL_s, xV_71, x_58 (n := nmL L c) x5 x6.1 (by omega) (x7 c (by omega)).1 (x7 c (by omega)).2, bI_s, show fnd _ (nmL L c) = _ from fn_nm x2 x3 x4 hc ht hT] at pre
  cases h : nmK T L c (kyT T t) with
  | none =>
    rw [h, oI_n, if_pos rfl, xg_71_0, xV_58] at pre
    obtain ⟨z, b1, b2, b3⟩ := j_atG (d := d) (k := 5) x1 g ht (by decide)
    rw [b1, bN_s] at pre
    exact ⟨z, pre, GB.ob b2, ⟨fun u => absurd u b2.2, fun u => absurd rfl u.2⟩, b3⟩
  | some i =>
    have hi := fnd_lt h
    have n5 := (vK.n5 x3 hc).2
    rw [h, oI_s, if_neg (nI_m1 (by show i < 2 ^ 31; have : i < nmL L c := hi; omega))] at pre
    exact ⟨s, pre, g, ⟨fun u => ⟨u, fun v => by cases v⟩, fun u => u.1⟩, offG.rf⟩
theorem L64_S (R : mjR) (n a : Nat) (b : Int32) (hp : mjH) : L_64_2 R (n + 1) a b hp = b_64_2 R (L_64_2 R n) a b hp := rfl
theorem L64b_S (R : mjR) (k2 : Nat → Int32 → mjH → mjU) (n a : Nat) (b e : Int32) (hp : mjH) : L_64_25 R k2 (n + 1) a b e hp = b_64_25 R k2 (L_64_25 R k2 n) a b e hp := rfl
theorem lq_64b (P : PFi T N L) (k2 : Nat → Int32 → mjH → mjU) (hc : c < L.length) : ∀ (r i m : Nat) (s : mjSt3), i + r = inL L c → r < m → JX T N q L s → RDR L s → s.1 (q + 3) c = nI (inL L c) → GB N s → (s.1 58 7 = 0 → ∀ j, j < i → s.1 (q + 4) (8 * c + j) = nI (7 * (ipT T L c j).1 + (ipT T L c j).2) ∧ (ipT T L c j).1 ≤ 4 ∧ (ipT T L c j).2 ≤ 4) → ∃ s', L_64_25 (mjF (d + 2)) k2 m 71 (nI c) (nI i) (mjW0 s) = k2 71 (nI (c + 1)) (mjW0 s') ∧ GB N s' ∧ (s'.1 58 7 = 0 ↔ s.1 58 7 = 0 ∧ ∀ j, i ≤ j → j < inL L c → ¬ nmK T L c (kyT T ((hC L c).2.2.2.1 + 4 * j)) = none ∧ ¬ nmK T L c (kyT T ((hC L c).2.2.2.1 + 4 * j + 2)) = none) ∧ oRow (q + 4) s s' ∧ (∀ j, ¬ (8 * c ≤ j ∧ j < 8 * c + 8) → s'.1 (q + 4) j = s.1 (q + 4) j) ∧ (s'.1 58 7 = 0 → ∀ j, j < inL L c → s'.1 (q + 4) (8 * c + j) = nI (7 * (ipT T L c j).1 + (ipT T L c j).2) ∧ (ipT T L c j).1 ≤ 4 ∧ (ipT T L c j).2 ≤ 4)
  | 0, i, m + 1, s, e, _, X, D, hI, g, w => by
    obtain ⟨x1, x2, x3, x4, x5, x6, x7, x8⟩ := X
    have h16 := x3.1
    have h8 : inL L c ≤ 8 := (P c hc).2.1
    refine ⟨s, ?_, g, ⟨fun h => ⟨h, fun a h1 h2 => absurd h1 (by omega)⟩, fun h => h.1⟩, offG.rf, fun _ _ => rfl, fun h j hj => w h j (by omega)⟩
    rw [L64b_S]
    unfold b_64_25 b_64_99
    rw [xg_71_2, x6.1, yg_3 x5, wya_3 x5 (by omega), hI, if_pos (nI_le (by omega) (by omega)), nI_1]
  | r + 1, i, m + 1, s, e, hr, X, D, hI, g, w => by
    have X0 := X
    obtain ⟨x1, x2, x3, x4, x5, x6, x7, x8⟩ := X
    have h16 := x3.1
    have hN := x1.2.1
    have h8 : inL L c ≤ 8 := (P c hc).2.1
    have hq : q = 2 ∨ q = 30 := x5
    have n5 := (vK.n5 x3 hc).2
    have p := (P c hc).2.2 i (by show i < inL L c; omega)
    have pre : L_64_25 (mjF (d + 2)) k2 (m + 1) 71 (nI c) (nI i) (mjW0 s) = _ := L64b_S _ _ _ _ _ _ _
    unfold b_64_25 b_64_99 at pre
    rw [xg_71_2, x6.1, yg_3 x5, wya_3 x5 (by omega), hI, if_neg (nI_ge (by omega) (by omega)), xg_71_0, xV_58] at pre
    by_cases h7 : s.1 58 7 = 0
    · obtain ⟨cu, hcu, f⟩ := g.f h7
      have h67 : s.1 67 c = nI (hC L c).2.2.2.1 := by
        rcases (D c hc).2.2 with h | h
        · have : inL L c = 0 := h
          omega
        · exact h
      rw [j_fine f, bI_s, if_neg (by decide), xg_71_1, xg_64_5, wa_67 (by omega), h67, xV_71, show nI (hC L c).2.2.2.1 + (4 : Int32) * nI i = nI ((hC L c).2.2.2.1 + 4 * i) by rw [show (4 : Int32) = nI 4 from rfl, nI_mul, nI_add]] at pre
      obtain ⟨z1, a1, a2, a3, a4⟩ := x_65 (d := d) X0 g hc (t := (hC L c).2.2.2.1 + 4 * i) (by omega) p.1
      have X1 := X0.o58 a4
      obtain ⟨z2, b1, b2', b3, b4⟩ := x_65 (d := d) X1 a2 hc (t := (hC L c).2.2.2.1 + 4 * i + 2) p.2.2 p.2.1
      have o2 : o58 s z2 := a4.tr b4
      have X2 := X0.o58 o2
      rw [a1, bI_s, xV_71, show nI ((hC L c).2.2.2.1 + 4 * i) + (2 : Int32) = nI ((hC L c).2.2.2.1 + 4 * i + 2) from nI_add _ 2, b1, bI_s, xg_71_2, X2.2.2.2.2.2.1.1, yV x5, e_109 (d := d + 1)] at pre
      unfold f_109 b_109_0 at pre
      have z7 : z2.1 58 7 = 0 ↔ ¬ nmK T L c (kyT T ((hC L c).2.2.2.1 + 4 * i)) = none ∧ ¬ nmK T L c (kyT T ((hC L c).2.2.2.1 + 4 * i + 2)) = none := by
        rw [b3, a3]
        exact ⟨fun u => ⟨u.1.2, u.2⟩, fun u => ⟨⟨h7, u.1⟩, u.2⟩⟩
      have fin : ∀ z, oRow (q + 4) s z → z.1 58 = z2.1 58 → (∀ j, ¬ (8 * c ≤ j ∧ j < 8 * c + 8) → z.1 (q + 4) j = s.1 (q + 4) j) → (z.1 58 7 = 0 → ∀ j, j < i + 1 → z.1 (q + 4) (8 * c + j) = nI (7 * (ipT T L c j).1 + (ipT T L c j).2) ∧ (ipT T L c j).1 ≤ 4 ∧ (ipT T L c j).2 ≤ 4) → L_64_25 (mjF (d + 2)) k2 (m + 1) 71 (nI c) (nI i) (mjW0 s) = L_64_25 (mjF (d + 2)) k2 m 71 (nI c) (nI (i + 1)) (mjW0 z) → (∃ s', L_64_25 (mjF (d + 2)) k2 (m + 1) 71 (nI c) (nI i) (mjW0 s) = k2 71 (nI (c + 1)) (mjW0 s') ∧ GB N s' ∧ (s'.1 58 7 = 0 ↔ s.1 58 7 = 0 ∧ ∀ j, i ≤ j → j < inL L c → ¬ nmK T L c (kyT T ((hC L c).2.2.2.1 + 4 * j)) = none ∧ ¬ nmK T L c (kyT T ((hC L c).2.2.2.1 + 4 * j + 2)) = none) ∧ oRow (q + 4) s s' ∧ (∀ j, ¬ (8 * c ≤ j ∧ j < 8 * c + 8) → s'.1 (q + 4) j = s.1 (q + 4) j) ∧ (s'.1 58 7 = 0 → ∀ j, j < inL L c → s'.1 (q + 4) (8 * c + j) = nI (7 * (ipT T L c j).1 + (ipT T L c j).2) ∧ (ipT T L c j).1 ≤ 4 ∧ (ipT T L c j).2 ≤ 4)) := by
        intro z o1 e58 r1 w1 pr
        obtain ⟨s', c1, c2, c3, c4, c5, c6⟩ := lq_64b P k2 hc r (i + 1) m z (by omega) (by omega) (X0.oJ (o1.J (q := q) (by omega))) (D.oJ x5 (o1.J (by omega))) (by rw [o1.r (by omega) (by omega)]; exact hI) (b2'.cg e58) w1
        have R : ∃ s', L_64_25 (mjF (d + 2)) k2 (m + 1) 71 (nI c) (nI i) (mjW0 s) = k2 71 (nI (c + 1)) (mjW0 s') ∧ GB N s' ∧ (s'.1 58 7 = 0 ↔ s.1 58 7 = 0 ∧ ∀ j, i ≤ j → j < inL L c → ¬ nmK T L c (kyT T ((hC L c).2.2.2.1 + 4 * j)) = none ∧ ¬ nmK T L c (kyT T ((hC L c).2.2.2.1 + 4 * j + 2)) = none) ∧ oRow (q + 4) s s' ∧ (∀ j, ¬ (8 * c ≤ j ∧ j < 8 * c + 8) → s'.1 (q + 4) j = s.1 (q + 4) j) ∧ (s'.1 58 7 = 0 → ∀ j, j < inL L c → s'.1 (q + 4) (8 * c + j) = nI (7 * (ipT T L c j).1 + (ipT T L c j).2) ∧ (ipT T L c j).1 ≤ 4 ∧ (ipT T L c j).2 ≤ 4) := by
          refine ⟨s', pr.trans c1, c2, ?_, o1.tr c4, fun j hj => (c5 j hj).trans (r1 j hj), c6⟩
          rw [c3, e58, z7]
          constructor
          · intro ⟨u, v⟩
            refine ⟨h7, fun j h1 h2 => ?_⟩
            by_cases ej : j = i
            · rw [ej]; exact u
            · exact v j (by omega) h2
          · intro ⟨u, v⟩
            exact ⟨v i (by omega) (by omega), fun j h1 h2 => v j (by omega) h2⟩
        exact R
      cases ha : nmK T L c (kyT T ((hC L c).2.2.2.1 + 4 * i)) with
      | none =>
        rw [ha, oI_n, if_pos rfl, bN_s, nI_1] at pre
        exact fin z2 o2.row rfl (fun j _ => by rw [o2.r (by omega)]) (fun h => absurd ha (z7.mp h).1) pre
      | some x =>
        have hx : x < nmL L c := fnd_lt ha
        rw [ha, oI_s, if_neg (nI_m1 (by omega))] at pre
        cases hb : nmK T L c (kyT T ((hC L c).2.2.2.1 + 4 * i + 2)) with
        | none =>
          rw [hb, oI_n, if_pos rfl, bN_s, nI_1] at pre
          exact fin z2 o2.row rfl (fun j _ => by rw [o2.r (by omega)]) (fun h => absurd hb (z7.mp h).2) pre
        | some y =>
          have hy : y < nmL L c := fnd_lt hb
          rw [hb, oI_s, if_neg (nI_m1 (by omega)), yg_4 x5, show nI c * (8 : Int32) + nI i = nI (8 * c + i) by rw [show (8 : Int32) = nI 8 from rfl, nI_mul, nI_add, Nat.mul_comm], wys_4 x5 (by omega), bN_s, nI_1, show nI x * (7 : Int32) + nI y = nI (7 * x + y) by rw [show (7 : Int32) = nI 7 from rfl, nI_mul, nI_add, Nat.mul_comm]] at pre
          have ei : ipT T L c i = (x, y) := by unfold ipT; rw [ha, hb]; rfl
          refine fin _ (o2.row.tr oRow.w) (uI_ne _ _ _ _ (by omega)) (fun j hj => ?_) (fun h j hj => ?_) pre
          · rw [uI_same, upd_g, if_neg (by omega), o2.r (by omega)]
          · by_cases ej : j = i
            · rw [ej, uI_same, upd_g, if_pos rfl, ei]
              exact ⟨rfl, by show x ≤ 4; omega, by show y ≤ 4; omega⟩
            · rw [uI_same, upd_g, if_neg (by omega), o2.r (by omega)]
              exact w h7 j (by omega)
    · rw [j_fineB (g.b h7), bI_s, if_pos rfl, nI_1] at pre
      exact ⟨s, pre, g, ⟨fun h => absurd h h7, fun h => absurd h.1 h7⟩, offG.rf, fun _ _ => rfl, fun h => absurd h h7⟩
end MJA10
