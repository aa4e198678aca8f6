/-! ===== the orders of an E: KINDS by number, how much waits ===== -/
/-- KINDS ahead, TYPES that wait, calls that wait (how many values are asked for, how many are there), values that wait -/
abbrev HS : Type := Nat × Nat × List (Nat × Nat) × Nat
def bump : List (Nat × Nat) → List (Nat × Nat)
  | e :: l => (e.1, e.2 + 1) :: l
  | [] => []
def hxE (r : Row) (x : HS) : HS :=
  if r.1 = 3 ∨ r.1 = 4 ∨ r.1 = 5 ∨ r.1 = 6 then (x.1, x.2.1 + 1, x.2.2.1, x.2.2.2 + 1)
  else if r.1 = 7 then (x.1 + 1, x.2.1 + 1, x.2.2.1, x.2.2.2 + 1)
  else if r.1 = 9 then (x.1, x.2.1 - 1, x.2.2.1, x.2.2.2 - 1)
  else if r.1 = 14 then (x.1 + 1, x.2)
  else if r.1 = 11 then (x.1, x.2.1 - 1, (nN r.2.2.2.1, 0) :: x.2.2.1, x.2.2.2)
  else if r.1 = 12 then (x.1, x.2.1 - 1, bump x.2.2.1, x.2.2.2)
  else if r.1 = 13 then (x.1, x.2.1 + 1, x.2.2.1.tail, x.2.2.2 - nN r.2.2.1)
  else x
/-- what an order needs -/
def loE (r : Row) (x : HS) : Prop := (r.1 = 9 → 2 ≤ x.2.1 ∧ 2 ≤ x.2.2.2) ∧ (r.1 = 10 ∨ r.1 = 30 ∨ r.1 = 8 ∨ r.1 = 14 ∨ r.1 = 11 → 1 ≤ x.2.1 ∧ 1 ≤ x.2.2.2) ∧ (r.1 = 11 → ∃ n, n ≤ 6 ∧ r.2.2.2.1 = nI n) ∧ (r.1 = 12 → 1 ≤ x.2.1 ∧ ∃ n i l, x.2.2.1 = (n, i) :: l ∧ i < n ∧ n ≤ 6 ∧ r.2.2.1 = nI i) ∧ (r.1 = 13 → ∃ n l, x.2.2.1 = (n, n) :: l ∧ r.2.2.1 = nI n ∧ n ≤ 6 ∧ n + 1 ≤ x.2.2.2)
/-- an order of an E at x, no more than h, p, q waits behind it -/
def okEr (H P Q : Nat) (r : Row) (x : HS) : Prop := (r.1 = 3 ∨ r.1 = 4 ∨ r.1 = 5 ∨ r.1 = 6 ∨ r.1 = 7 ∨ r.1 = 8 ∨ r.1 = 9 ∨ r.1 = 10 ∨ r.1 = 11 ∨ r.1 = 12 ∨ r.1 = 13 ∨ r.1 = 14 ∨ r.1 = 30) ∧ (r.1 = 7 ∨ r.1 = 14 → r.2.2.1 = nI x.1) ∧ (hxE r x).2.1 ≤ H ∧ (hxE r x).2.2.1.length ≤ P ∧ (hxE r x).2.2.2 ≤ Q ∧ loE r x
def scE (H P Q : Nat) : List Row → HS → Prop
  | [], _ => True
  | r :: l, x => okEr H P Q r x ∧ scE H P Q l (hxE r x)
def fdE : List Row → HS → HS
  | [], x => x
  | r :: l, x => fdE l (hxE r x)
section MJA88
variable {T : TT} {M H P Q : Nat}
theorem loE_9 {r : Row} {x : HS} (h : r.1 = 9) (h1 : 2 ≤ x.2.1) (h2 : 2 ≤ x.2.2.2) : loE r x := by
  refine ⟨fun _ => ⟨h1, h2⟩, fun g => ?_, fun g => ?_, fun g => ?_, fun g => ?_⟩ <;> exact absurd g (by rw [h]; decide)
theorem loE_1 {r : Row} {x : HS} (h : r.1 = 10 ∨ r.1 = 30 ∨ r.1 = 8 ∨ r.1 = 14) (h1 : 1 ≤ x.2.1) (h2 : 1 ≤ x.2.2.2) : loE r x := by
  refine ⟨fun g => ?_, fun _ => ⟨h1, h2⟩, fun g => ?_, fun g => ?_, fun g => ?_⟩ <;> rcases h with h | h | h | h <;> exact absurd g (by rw [h]; decide)
theorem loE_11 {r : Row} {x : HS} (h : r.1 = 11) (h1 : 1 ≤ x.2.1) (h2 : 1 ≤ x.2.2.2) (h3 : ∃ n, n ≤ 6 ∧ r.2.2.2.1 = nI n) : loE r x := by
  refine ⟨fun g => ?_, fun _ => ⟨h1, h2⟩, fun _ => h3, fun g => ?_, fun g => ?_⟩ <;> exact absurd g (by rw [h]; decide)
theorem loE_12 {r : Row} {x : HS} (h : r.1 = 12) (h1 : 1 ≤ x.2.1 ∧ ∃ n i l, x.2.2.1 = (n, i) :: l ∧ i < n ∧ n ≤ 6 ∧ r.2.2.1 = nI i) : loE r x := by
  refine ⟨fun g => ?_, fun g => ?_, fun g => ?_, fun _ => h1, fun g => ?_⟩ <;> exact absurd g (by rw [h]; decide)
theorem loE_13 {r : Row} {x : HS} (h : r.1 = 13) (h1 : ∃ n l, x.2.2.1 = (n, n) :: l ∧ r.2.2.1 = nI n ∧ n ≤ 6 ∧ n + 1 ≤ x.2.2.2) : loE r x := by
  refine ⟨fun g => ?_, fun g => ?_, fun g => ?_, fun g => ?_, fun _ => h1⟩ <;> exact absurd g (by rw [h]; decide)
theorem loE_0 {r : Row} {x : HS} (h : r.1 = 3 ∨ r.1 = 4 ∨ r.1 = 5 ∨ r.1 = 6 ∨ r.1 = 7) : loE r x := by
  refine ⟨fun g => ?_, fun g => ?_, fun g => ?_, fun g => ?_, fun g => ?_⟩ <;> rcases h with h | h | h | h | h <;> exact absurd g (by rw [h]; decide)
theorem scE_app : ∀ (a b : List Row) (x : HS), scE H P Q (a ++ b) x ↔ scE H P Q a x ∧ scE H P Q b (fdE a x)
  | [], b, x => ⟨fun h => ⟨trivial, h⟩, fun h => h.2⟩
  | r :: a, b, x => by
    show okEr H P Q r x ∧ scE H P Q (a ++ b) (hxE r x) ↔ (okEr H P Q r x ∧ scE H P Q a (hxE r x)) ∧ scE H P Q b (fdE a (hxE r x))
    rw [scE_app a b, and_assoc]
theorem fdE_app : ∀ (a b : List Row) (x : HS), fdE (a ++ b) x = fdE b (fdE a x)
  | [], _, _ => rfl
  | r :: a, b, x => fdE_app a b (hxE r x)
/-- KINDS of an E: where they stand -/
def kdR (T : TT) (a b : Nat) (l : List Nat) : Prop := ∀ t, t ∈ l → a ≤ t ∧ t < b ∧ ∃ c', pKind T t = .inr c'
theorem kdR.nil {a b : Nat} : kdR T a b [] := fun t h => by cases h
theorem kdR.mono {a b a' b' : Nat} {l : List Nat} (h : kdR T a b l) (h1 : a' ≤ a) (h2 : b ≤ b') : kdR T a' b' l := fun t ht => by
  obtain ⟨x, y, z⟩ := h t ht
  exact ⟨by omega, by omega, z⟩
theorem kdR.app {a b : Nat} {l m : List Nat} (h : kdR T a b l) (g : kdR T a b m) : kdR T a b (l ++ m) := fun t ht => (List.mem_append.mp ht).elim (h t) (g t)
theorem kdR.one {a b t c' : Nat} (h : pKind T t = .inr c') (h1 : a ≤ t) (h2 : t < b) : kdR T a b [t] := fun x hx => by
  have e : x = t := by simpa using hx
  rw [e]
  exact ⟨h1, h2, c', h⟩
/-- what an E (from c on, KINDS from kq on) leaves: its orders, its KINDS; no more than e, f, g waits above what waits ahead -/
def gdE (T : TT) (c kq e f g : Nat) (y : PZ) : Prop := kdR T c y.1 y.2.2.1 ∧ ∀ (h : Nat) (p : List (Nat × Nat)) (q H P Q : Nat), h + e ≤ H → p.length + f ≤ P → q + g ≤ Q → scE H P Q y.2.2.2.1 (kq, h, p, q) ∧ fdE y.2.2.2.1 (kq, h, p, q) = (kq + y.2.2.1.length, h + 1, p, q + 1)
theorem gdE.mono {c kq e f g e' f' g' : Nat} {y : PZ} (h : gdE T c kq e f g y) (h1 : e ≤ e') (h2 : f ≤ f') (h3 : g ≤ g') : gdE T c kq e' f' g' y := ⟨h.1, fun a p q H P Q x1 x2 x3 => h.2 a p q H P Q (by omega) (by omega) (by omega)⟩
/-- while a sum is read: two E and their sign -/
theorem gdE.two {c kq e f g : Nat} {z w : PZ} {r : Row} (hz : gdE T c kq (e + 1) f (g + 1) z) (hw : gdE T (z.1 + 1) (kq + z.2.2.1.length) e f g w) (hc : c ≤ z.1) (hcw : z.1 < w.1) (hr : r.1 = 9) (he : 1 ≤ e) (hg : 1 ≤ g) : gdE T c kq (e + 1) f (g + 1) (w.1, 0, z.2.2.1 ++ w.2.2.1, z.2.2.2.1 ++ w.2.2.2.1 ++ [r], z.2.2.2.2 ++ w.2.2.2.2) := by
  refine ⟨(hz.1.mono (Nat.le_refl _) (by show z.1 ≤ w.1; omega)).app (hw.1.mono (by omega) (Nat.le_refl _)), fun h p q H P Q x1 x2 x3 => ?_⟩
  obtain ⟨a1, a2⟩ := hz.2 h p q H P Q (by omega) x2 (by omega)
  obtain ⟨b1, b2⟩ := hw.2 (h + 1) p (q + 1) H P Q (by omega) x2 (by omega)
  have nx : hxE r (kq + z.2.2.1.length + w.2.2.1.length, h + 1 + 1, p, q + 1 + 1) = (kq + z.2.2.1.length + w.2.2.1.length, h + 1, p, q + 1) := by
    unfold hxE
    rw [hr, if_neg (by decide), if_neg (by decide), if_pos rfl]
    rfl
  constructor
  · show scE H P Q (z.2.2.2.1 ++ w.2.2.2.1 ++ [r]) (kq, h, p, q)
    rw [scE_app, scE_app, a2]
    refine ⟨⟨a1, b1⟩, ?_⟩
    rw [fdE_app, a2, b2]
    refine ⟨⟨by rw [hr]; decide, fun x => by rw [hr] at x; exact absurd x (by decide), ?_⟩, trivial⟩
    rw [nx]
    refine ⟨?_, ?_, ?_, loE_9 hr ?_ ?_⟩ <;> dsimp only <;> omega
  · show fdE (z.2.2.2.1 ++ w.2.2.2.1 ++ [r]) (kq, h, p, q) = _
    rw [fdE_app, fdE_app, a2, b2]
    show hxE r _ = _
    rw [nx, List.length_append, Nat.add_assoc]
theorem pLoop_gd {sg : Int32 → Bool} {rd : Nat → Nat → PX} {kq c e f g : Nat} (he : 1 ≤ e) (hg : 1 ≤ g) (hr : ∀ c kq y, rd c kq = .inr y → c < y.1 ∧ gdE T c kq e f g y) : ∀ (k : Nat) (z y : PZ), c ≤ z.1 → gdE T c kq (e + 1) f (g + 1) z → pLoop T sg rd kq k z = .inr y → gdE T c kq (e + 1) f (g + 1) y
  | 0, z, y, hc, hz, h => by cases h; exact hz
  | k + 1, z, y, hc, hz, h => by
    unfold pLoop at h
    by_cases q : sg (T z.1).1 = true
    · rw [if_pos q] at h
      cases hd : rd (z.1 + 1) (kq + z.2.2.1.length) with
      | inl e => rw [hd] at h; cases h
      | inr w =>
        rw [hd] at h
        obtain ⟨w1, w2⟩ := hr _ _ _ hd
        exact pLoop_gd he hg hr k _ y (by show c ≤ w.1; omega) (gdE.two hz w2 hc (by omega) rfl he hg) h
    · rw [if_neg q] at h
      cases h
      exact hz
theorem gdE.row {c kq e f g : Nat} {z : PZ} {r : Row} {c' : Nat} {sh : Int32} (hz : gdE T c kq e f g z) (hc : z.1 ≤ c') (hr : r.1 = 10 ∨ r.1 = 30 ∨ r.1 = 8) (he : 1 ≤ e) (hg : 1 ≤ g) {ag : List (Nat × Nat)} : gdE T c kq e f g (c', sh, z.2.2.1, z.2.2.2.1 ++ [r], ag) := by
  have nx : ∀ x, hxE r x = x := by
    intro x
    unfold hxE
    rcases hr with hr | hr | hr <;> · rw [hr, if_neg (by decide), if_neg (by decide), if_neg (by decide), if_neg (by decide), if_neg (by decide), if_neg (by decide), if_neg (by decide)]
  refine ⟨hz.1.mono (Nat.le_refl _) hc, fun h p q H P Q x1 x2 x3 => ?_⟩
  obtain ⟨a1, a2⟩ := hz.2 h p q H P Q x1 x2 x3
  constructor
  · show scE H P Q (z.2.2.2.1 ++ [r]) (kq, h, p, q)
    rw [scE_app, a2]
    refine ⟨a1, ⟨by rcases hr with hr | hr | hr <;> · rw [hr]; decide, fun x => by rcases hr with hr | hr | hr <;> · rw [hr] at x; exact absurd x (by decide), ?_⟩, trivial⟩
    rw [nx]
    refine ⟨?_, ?_, ?_, loE_1 (by rcases hr with hr | hr | hr <;> · rw [hr]; decide) ?_ ?_⟩ <;> dsimp only <;> omega
  · show fdE (z.2.2.2.1 ++ [r]) (kq, h, p, q) = _
    rw [fdE_app, a2]
    show hxE r _ = _
    rw [nx]
/-- a call's orders, behind its object -/
def gdC (T : TT) (c kq e f g : Nat) (y : PZ) : Prop := kdR T c y.1 y.2.2.1 ∧ ∀ (h : Nat) (p : List (Nat × Nat)) (q H P Q : Nat), h + e ≤ H → p.length + 1 + f ≤ P → q + 6 + g ≤ Q → scE H P Q y.2.2.2.1 (kq, h + 1, p, q + 1) ∧ fdE y.2.2.2.1 (kq, h + 1, p, q + 1) = (kq + y.2.2.1.length, h + 1, p, q + 1)
theorem hx_11 {r : Row} (hr : r.1 = 11) (x : HS) : hxE r x = (x.1, x.2.1 - 1, (nN r.2.2.2.1, 0) :: x.2.2.1, x.2.2.2) := by
  unfold hxE
  rw [hr, if_neg (by decide), if_neg (by decide), if_neg (by decide), if_neg (by decide), if_pos rfl]
theorem hx_12 {r : Row} (hr : r.1 = 12) (x : HS) : hxE r x = (x.1, x.2.1 - 1, bump x.2.2.1, x.2.2.2) := by
  unfold hxE
  rw [hr, if_neg (by decide), if_neg (by decide), if_neg (by decide), if_neg (by decide), if_neg (by decide), if_pos rfl]
theorem hx_13 {r : Row} (hr : r.1 = 13) (x : HS) : hxE r x = (x.1, x.2.1 + 1, x.2.2.1.tail, x.2.2.2 - nN r.2.2.1) := by
  unfold hxE
  rw [hr, if_neg (by decide), if_neg (by decide), if_neg (by decide), if_neg (by decide), if_neg (by decide), if_neg (by decide), if_pos rfl]
theorem hx_14 {r : Row} (hr : r.1 = 14) (x : HS) : hxE r x = (x.1 + 1, x.2) := by
  unfold hxE
  rw [hr, if_neg (by decide), if_neg (by decide), if_neg (by decide), if_pos rfl]
theorem gdE.as {c kq e f g : Nat} {z : PZ} {r : Row} {c' : Nat} (hz : gdE T c kq e f g z) (hcz : c ≤ z.1) (hk : pKind T (z.1 + 1) = .inr c') (hr : r.1 = 14) (ha : r.2.2.1 = nI (kq + z.2.2.1.length)) (he : 1 ≤ e) (hg : 1 ≤ g) {ag : List (Nat × Nat)} {sh : Int32} : gdE T c kq e f g (c', sh, z.2.2.1 ++ [z.1 + 1], z.2.2.2.1 ++ [r], ag) := by
  have kl := pKind_len hk
  refine ⟨(hz.1.mono (Nat.le_refl _) (by show z.1 ≤ c'; omega)).app (kdR.one hk (by omega) (by show z.1 + 1 < c'; omega)), fun h p q H P Q x1 x2 x3 => ?_⟩
  obtain ⟨a1, a2⟩ := hz.2 h p q H P Q x1 x2 x3
  constructor
  · show scE H P Q (z.2.2.2.1 ++ [r]) (kq, h, p, q)
    rw [scE_app, a2]
    refine ⟨a1, ⟨by rw [hr]; decide, fun _ => ha, ?_⟩, trivial⟩
    rw [hx_14 hr]
    refine ⟨?_, ?_, ?_, loE_1 (Or.inr (Or.inr (Or.inr hr))) ?_ ?_⟩ <;> dsimp only <;> omega
  · show fdE (z.2.2.2.1 ++ [r]) (kq, h, p, q) = _
    rw [fdE_app, a2]
    show hxE r _ = _
    rw [hx_14 hr, List.length_append]
    rfl
theorem gdE.call {c kq e f g e0 f0 g0 : Nat} {z y : PZ} {sh : Int32} (hz : gdE T c kq e f g z) (hy : gdC T (z.1 + 2) (kq + z.2.2.1.length) e0 f0 g0 y) (hcz : c ≤ z.1) (hzy : z.1 ≤ y.1) (h1 : e0 ≤ e) (h2 : 1 + f0 ≤ f) (h3 : 6 + g0 ≤ g) {ag : List (Nat × Nat)} : gdE T c kq e f g (y.1, sh, z.2.2.1 ++ y.2.2.1, z.2.2.2.1 ++ y.2.2.2.1, ag) := by
  refine ⟨(hz.1.mono (Nat.le_refl _) hzy).app (hy.1.mono (by omega) (Nat.le_refl _)), fun h p q H P Q x1 x2 x3 => ?_⟩
  obtain ⟨a1, a2⟩ := hz.2 h p q H P Q x1 x2 x3
  obtain ⟨b1, b2⟩ := hy.2 h p q H P Q (by omega) (by omega) (by omega)
  constructor
  · show scE H P Q (z.2.2.2.1 ++ y.2.2.2.1) (kq, h, p, q)
    rw [scE_app, a2]
    exact ⟨a1, b1⟩
  · show fdE (z.2.2.2.1 ++ y.2.2.2.1) (kq, h, p, q) = _
    rw [fdE_app, a2, b2, List.length_append, Nat.add_assoc]
theorem pPost_gd {ra : Nat → Nat → PX} {kq c e f g e0 f0 g0 : Nat} (he : 1 ≤ e) (hg : 1 ≤ g) (hr : ∀ c kq y, ra c kq = .inr y → c < y.1 ∧ gdC T c kq e0 f0 g0 y ∧ e0 ≤ e ∧ 1 + f0 ≤ f ∧ 6 + g0 ≤ g) : ∀ (k : Nat) (z y : PZ), c ≤ z.1 → gdE T c kq e f g z → pPost T ra kq k z = .inr y → gdE T c kq e f g y
  | 0, z, y, hc, hz, h => by cases h; exact hz
  | k + 1, z, y, hc, hz, h => by
    unfold pPost at h
    by_cases q : (T z.1).1 = 20
    · rw [if_pos q] at h
      cases hd : pKind T (z.1 + 1) with
      | inl e => rw [hd] at h; cases h
      | inr c' =>
        rw [hd] at h
        have kl := pKind_len hd
        exact pPost_gd he hg hr k _ y (by show c ≤ c'; omega) (gdE.as hz hc hd rfl rfl he hg) h
    · rw [if_neg q] at h
      by_cases g2 : (T z.1).1 = 46
      · rw [if_pos g2] at h
        by_cases g3 : (T (z.1 + 1)).1 = 3
        · rw [if_pos g3] at h
          by_cases g4 : (T (z.1 + 2)).1 = 40
          · rw [if_pos g4] at h
            cases hd : ra (z.1 + 2) (kq + z.2.2.1.length) with
            | inl e => rw [hd] at h; cases h
            | inr w =>
              rw [hd] at h
              obtain ⟨w1, w2, w3, w4, w5⟩ := hr _ _ _ hd
              exact pPost_gd he hg hr k _ y (by show c ≤ w.1; omega) (gdE.call hz w2 hc (by omega) w3 w4 w5) h
          · rw [if_neg g4] at h
            exact pPost_gd he hg hr k _ y (by show c ≤ z.1 + 2; omega) (gdE.row hz (by omega) (Or.inl rfl) he hg) h
        · rw [if_neg g3] at h; cases h
      · rw [if_neg g2] at h
        cases h
        exact hz
/-- ARGUMENTS: k of them are read -/
def gdA (T : TT) (c kq e f g k : Nat) (z : PZ) : Prop := kdR T c z.1 z.2.2.1 ∧ ∀ (n h : Nat) (p : List (Nat × Nat)) (q H P Q : Nat), k ≤ n → n ≤ 6 → h + e ≤ H → p.length + 1 + f ≤ P → q + 5 + g ≤ Q → scE H P Q z.2.2.2.1 (kq, h, (n, 0) :: p, q) ∧ fdE z.2.2.2.1 (kq, h, (n, 0) :: p, q) = (kq + z.2.2.1.length, h, (n, k) :: p, q + k)
theorem pArgs_gd {rv : Nat → Nat → PX} {kq c e f g : Nat} (hr : ∀ c kq y, rv c kq = .inr y → c < y.1 ∧ gdE T c kq e f g y) (hg : 1 ≤ g) : ∀ (n k : Nat) (z : PZ) (y : Nat × PZ), c ≤ z.1 → k ≤ 6 → gdA T c kq e f g k z → pArgs T rv kq n k z = .inr y → y.1 ≤ 6 ∧ gdA T c kq e f g y.1 y.2
  | 0, k, z, y, hc, hk, hz, h => by cases h
  | n + 1, k, z, y, hc, hk, hz, h => by
    unfold pArgs at h
    by_cases q : k = 6
    · rw [if_pos q] at h; cases h
    · rw [if_neg q] at h
      cases hd : rv z.1 (kq + z.2.2.1.length) with
      | inl e => rw [hd] at h; cases h
      | inr w =>
        rw [hd] at h
        obtain ⟨w1, w2⟩ := hr _ _ _ hd
        have nx : ∀ (r : Row), r.1 = 12 → r.2.2.1 = nI k → ∀ (c' : Nat) (sh : Int32) (ag : List (Nat × Nat)), w.1 ≤ c' → gdA T c kq e f g (k + 1) (c', sh, z.2.2.1 ++ w.2.2.1, z.2.2.2.1 ++ w.2.2.2.1 ++ [r], ag) := by
          intro r hr ha c' sh ag hc'
          refine ⟨(hz.1.mono (Nat.le_refl _) (by show z.1 ≤ c'; omega)).app (w2.1.mono hc hc'), fun n h p q H P Q y1 y2 x1 x2 x3 => ?_⟩
          obtain ⟨a1, a2⟩ := hz.2 n h p q H P Q (by omega) y2 x1 x2 x3
          obtain ⟨b1, b2⟩ := w2.2 h ((n, k) :: p) (q + k) H P Q x1 (by show p.length + 1 + f ≤ P; omega) (by omega)
          constructor
          · show scE H P Q (z.2.2.2.1 ++ w.2.2.2.1 ++ [r]) (kq, h, (n, 0) :: p, q)
            rw [scE_app, scE_app, a2]
            refine ⟨⟨a1, b1⟩, ?_⟩
            rw [fdE_app, a2, b2]
            refine ⟨⟨by rw [hr]; decide, fun x => by rw [hr] at x; exact absurd x (by decide), ?_⟩, trivial⟩
            rw [hx_12 hr]
            refine ⟨by dsimp only; omega, by show p.length + 1 ≤ P; omega, by dsimp only; omega, loE_12 hr ⟨by dsimp only; omega, n, k, p, rfl, by omega, y2, ha⟩⟩
          · show fdE (z.2.2.2.1 ++ w.2.2.2.1 ++ [r]) (kq, h, (n, 0) :: p, q) = _
            rw [fdE_app, fdE_app, a2, b2]
            show hxE r _ = _
            rw [hx_12 hr, List.length_append]
            show (kq + z.2.2.1.length + w.2.2.1.length, h + 1 - 1, (n, k + 1) :: p, q + k + 1) = _
            rw [show h + 1 - 1 = h by omega, Nat.add_assoc kq, Nat.add_assoc q]
        by_cases g2 : (T w.1).1 = 44
        · simp only [if_pos g2] at h
          exact pArgs_gd hr hg n (k + 1) _ y (by show c ≤ w.1 + 1; omega) (by omega) (nx _ rfl rfl _ _ _ (by omega)) h
        · simp only [if_neg g2] at h
          by_cases g3 : (T w.1).1 = 41
          · simp only [if_pos g3] at h
            cases h
            exact ⟨by show k + 1 ≤ 6; omega, nx _ rfl rfl _ _ _ (by omega)⟩
          · simp only [if_neg g3] at h; cases h
end MJA88
