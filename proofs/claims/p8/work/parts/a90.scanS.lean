/-! ===== the orders of STATEMENTS: told VARIABLES, what is left of =, KINDS ===== -/
/-- an E that is a FIELD ends with the FIELD's order -/
def sh2 (z : PZ) : Prop := z.2.1 = 2 → ∃ b r, z.2.2.2.1 = b ++ [r] ∧ r.1 = 10
section MJA90A
variable {T : TT} {M : Nat}
theorem pLoop_s2 {sg : Int32 → Bool} {rd : Nat → Nat → PX} {kq : Nat} : ∀ (k : Nat) (z y : PZ), sh2 z → pLoop T sg rd kq k z = .inr y → sh2 y
  | 0, z, y, hz, h => by cases h; exact hz
  | k + 1, z, y, hz, h => by
    unfold pLoop at h
    by_cases q : sg (T z.1).1 = true
    · rw [if_pos q] at h
      cases hd : rd (z.1 + 1) (kq + z.2.2.1.length) with
      | inl e => rw [hd] at h; cases h
      | inr w => rw [hd] at h; exact pLoop_s2 k _ y (fun e => absurd (show (0 : Int32) = 2 from e) (by decide)) h
    · rw [if_neg q] at h; cases h; exact hz
theorem pPost_s2 {ra : Nat → Nat → PX} {kq : Nat} : ∀ (k : Nat) (z y : PZ), sh2 z → pPost T ra kq k z = .inr y → sh2 y
  | 0, z, y, hz, h => by cases h; exact hz
  | k + 1, z, y, hz, h => by
    unfold pPost at h
    by_cases q : (T z.1).1 = 20
    · rw [if_pos q] at h
      cases hd : pKind T (z.1 + 1) with
      | inl e => rw [hd] at h; cases h
      | inr c' => rw [hd] at h; exact pPost_s2 k _ y (fun e => absurd (show (0 : Int32) = 2 from e) (by decide)) h
    · rw [if_neg q] at h
      by_cases g2 : (T z.1).1 = 46
      · rw [if_pos g2] at h
        by_cases g3 : (T (z.1 + 1)).1 = 3
        · rw [if_pos g3] at h
          by_cases g4 : (T (z.1 + 2)).1 = 40
          · rw [if_pos g4] at h
            cases hd : ra (z.1 + 2) (kq + z.2.2.1.length) with
            | inl e => rw [hd] at h; cases h
            | inr w => rw [hd] at h; exact pPost_s2 k _ y (fun e => absurd (show (3 : Int32) = 2 from e) (by decide)) h
          · rw [if_neg g4] at h
            exact pPost_s2 k _ y (fun _ => ⟨_, _, rfl, rfl⟩) h
        · rw [if_neg g3] at h; cases h
      · rw [if_neg g2] at h; cases h; exact hz
theorem prE_s2 : ∀ (f tag o c kq : Nat) (y : PZ), tag ≤ 5 → prE T M f tag o c kq = .inr y → sh2 y := by
  intro f
  induction f with
  | zero => intro tag o c kq y _ h; cases h
  | succ f ih =>
    intro tag o c kq y ht h
    have no : ∀ {c' : Nat} {ks : List Nat} {os : List Row} {ag : List (Nat × Nat)}, sh2 (c', 0, ks, os, ag) := fun e => absurd (show (0 : Int32) = 2 from e) (by decide)
    match tag, ht with
    | 0, _ =>
      rw [prE_0] at h
      cases hd : prE T M f 1 o c kq with
      | inl e => rw [hd] at h; cases h
      | inr z =>
        rw [hd] at h
        by_cases g : isCmp (T z.1).1 = true
        · simp only [if_pos g] at h
          cases hd2 : prE T M f 1 o (z.1 + 1) (kq + z.2.2.1.length) with
          | inl e => rw [hd2] at h; cases h
          | inr w => rw [hd2] at h; cases h; exact no
        · simp only [if_neg g] at h
          have hz := ih 1 o c kq z (by omega) hd
          cases h
          exact hz
    | 1, _ =>
      rw [prE_1] at h
      cases hd : prE T M f 2 o c kq with
      | inl e => rw [hd] at h; cases h
      | inr z => rw [hd] at h; exact pLoop_s2 M z y (ih 2 o c kq z (by omega) hd) h
    | 2, _ =>
      rw [prE_2] at h
      cases hd : prE T M f 3 o c kq with
      | inl e => rw [hd] at h; cases h
      | inr z => rw [hd] at h; exact pLoop_s2 M z y (ih 3 o c kq z (by omega) hd) h
    | 3, _ =>
      rw [prE_3] at h
      by_cases g : (T c).1 = 45
      · rw [if_pos g] at h
        by_cases g2 : o = 12
        · rw [if_pos g2] at h; cases h
        · rw [if_neg g2] at h
          cases hd : prE T M f 3 (o + 1) (c + 1) kq with
          | inl e => rw [hd] at h; cases h
          | inr z => rw [hd] at h; cases h; exact no
      · rw [if_neg g] at h
        exact ih 4 o c kq y (by omega) h
    | 4, _ =>
      rw [prE_4] at h
      cases hd : prE T M f 5 o c kq with
      | inl e => rw [hd] at h; cases h
      | inr z => rw [hd] at h; exact pPost_s2 M z y (ih 5 o c kq z (by omega) hd) h
    | 5, _ =>
      rw [prE_5] at h
      unfold pAtom at h
      by_cases k3 : (T c).1 = 3
      · rw [if_pos k3] at h; cases h; exact fun e => absurd (show (1 : Int32) = 2 from e) (by decide)
      rw [if_neg k3] at h
      by_cases k4 : (T c).1 = 4
      · rw [if_pos k4] at h; cases h; exact no
      rw [if_neg k4] at h
      by_cases k11 : (T c).1 = 11
      · rw [if_pos k11] at h; cases h; exact no
      rw [if_neg k11] at h
      by_cases k12 : (T c).1 = 12
      · rw [if_pos k12] at h; cases h; exact no
      rw [if_neg k12] at h
      by_cases k14 : (T c).1 = 14
      · rw [if_pos k14] at h
        cases hd : pKind T (c + 1) with
        | inl e => rw [hd] at h; cases h
        | inr c' => rw [hd] at h; cases h; exact no
      rw [if_neg k14] at h
      by_cases k40 : (T c).1 = 40
      · rw [if_pos k40] at h
        by_cases g2 : o = 12
        · rw [if_pos g2] at h; cases h
        · rw [if_neg g2] at h
          cases hd : prE T M f 0 (o + 1) (c + 1) kq with
          | inl e => rw [hd] at h; cases h
          | inr z =>
            rw [hd] at h
            by_cases g3 : (T z.1).1 = 41
            · simp only [if_pos g3] at h; cases h; exact no
            · simp only [if_neg g3] at h; cases h
      · rw [if_neg k40] at h; cases h
end MJA90A
/-- orders of an E -/
def isE (r : Row) : Prop := r.1 = 3 ∨ r.1 = 4 ∨ r.1 = 5 ∨ r.1 = 6 ∨ r.1 = 7 ∨ r.1 = 8 ∨ r.1 = 9 ∨ r.1 = 10 ∨ r.1 = 11 ∨ r.1 = 12 ∨ r.1 = 13 ∨ r.1 = 14 ∨ r.1 = 30
/-- KINDS, what waits; told; where what is left of = stands; is one being told; depth -/
abbrev WS : Type := HS × Nat × Nat × Bool × Nat
def nxW (r : Row) (i : Nat) (x : WS) : WS :=
  if r.1 = 15 then ((x.1.1, x.1.2.1 + 1, x.1.2.2), x.2.1, i, x.2.2.2)
  else if r.1 = 16 then (x.1, x.2.1, i, x.2.2.2)
  else if r.1 = 17 then ((x.1.1, x.1.2.1 - 2, x.1.2.2.1, x.1.2.2.2 - 1), x.2)
  else if r.1 = 18 then ((x.1.1, x.1.2.1 - 2, x.1.2.2.1, x.1.2.2.2 - 2), x.2)
  else if r.1 = 19 then ((if r.2.2.1 = -1 then x.1.1 else x.1.1 + 1, x.1.2), x.2.1, x.2.2.1, true, x.2.2.2.2)
  else if r.1 = 20 then ((x.1.1, x.1.2.1 - 1, x.1.2.2.1, x.1.2.2.2 - 1), x.2.1 + 1, x.2.2.1, false, x.2.2.2.2)
  else if r.1 = 21 ∨ r.1 = 24 ∨ r.1 = 28 ∨ r.1 = 25 then ((x.1.1, x.1.2.1 - 1, x.1.2.2.1, x.1.2.2.2 - 1), x.2)
  else if r.1 = 1 ∨ r.1 = 2 ∨ r.1 = 22 ∨ r.1 = 23 then x
  else if r.1 = 26 then (x.1, x.2.1, x.2.2.1, x.2.2.2.1, x.2.2.2.2 + 1)
  else if r.1 = 27 then (x.1, x.2.1, x.2.2.1, x.2.2.2.1, x.2.2.2.2 - 1)
  else (hxE r x.1, x.2)
/-- an order in its place -/
def okW (r : Row) (x : WS) : Prop := (okEr 60 20 120 r x.1) ∨ (r.1 = 15 ∧ x.1.2.1 ≤ 50) ∨ (r.1 = 16 ∧ 1 ≤ x.1.2.1 ∧ 1 ≤ x.1.2.2.2) ∨ ((r.1 = 17 ∧ 1 ≤ x.1.2.2.2 ∨ r.1 = 18 ∧ 2 ≤ x.1.2.2.2) ∧ 2 ≤ x.1.2.1 ∧ r.2.2.1 = nI x.2.2.1) ∨ (r.1 = 19 ∧ x.2.2.2.1 = false ∧ x.2.1 < 16 ∧ (r.2.2.1 = -1 ∨ (¬ r.2.2.1 = -1 ∧ r.2.2.1 = nI x.1.1))) ∨ (r.1 = 20 ∧ x.2.2.2.1 = true ∧ x.2.1 < 16 ∧ r.2.2.1 = nI x.2.1 ∧ 1 ≤ x.1.2.1 ∧ 1 ≤ x.1.2.2.2) ∨ ((r.1 = 21 ∨ r.1 = 24 ∨ r.1 = 28 ∨ r.1 = 25) ∧ (r.1 = 28 → ¬ r.2.2.1 = 0) ∧ 1 ≤ x.1.2.1 ∧ 1 ≤ x.1.2.2.2) ∨ (r.1 = 1 ∨ r.1 = 2 ∨ r.1 = 22 ∨ r.1 = 23) ∨ (r.1 = 26 ∧ x.2.2.2.1 = false) ∨ (r.1 = 27 ∧ x.2.2.2.1 = false ∧ 1 ≤ x.2.2.2.2)
theorem okW.e {r : Row} {x : WS} (h0 : okEr 60 20 120 r x.1) : okW r x := Or.inl h0
theorem okW.l {r : Row} {x : WS} (h0 : r.1 = 15) (h1 : x.1.2.1 ≤ 50) : okW r x := Or.inr (Or.inl ⟨h0, h1⟩)
theorem okW.f {r : Row} {x : WS} (h0 : r.1 = 16) (h1 : 1 ≤ x.1.2.1) (h2 : 1 ≤ x.1.2.2.2) : okW r x := Or.inr (Or.inr (Or.inl ⟨h0, h1, h2⟩))
theorem okW.p {r : Row} {x : WS} (h0 : r.1 = 17 ∧ 1 ≤ x.1.2.2.2 ∨ r.1 = 18 ∧ 2 ≤ x.1.2.2.2) (h2 : 2 ≤ x.1.2.1) (h1 : r.2.2.1 = nI x.2.2.1) : okW r x := Or.inr (Or.inr (Or.inr (Or.inl ⟨h0, h2, h1⟩)))
theorem okW.d {r : Row} {x : WS} (h0 : r.1 = 19) (h1 : x.2.2.2.1 = false) (h2 : x.2.1 < 16) (h3 : r.2.2.1 = -1 ∨ (¬ r.2.2.1 = -1 ∧ r.2.2.1 = nI x.1.1)) : okW r x := Or.inr (Or.inr (Or.inr (Or.inr (Or.inl ⟨h0, h1, h2, h3⟩))))
theorem okW.k {r : Row} {x : WS} (h0 : r.1 = 20) (h1 : x.2.2.2.1 = true) (h2 : x.2.1 < 16) (h3 : r.2.2.1 = nI x.2.1) (h4 : 1 ≤ x.1.2.1) (h5 : 1 ≤ x.1.2.2.2) : okW r x := Or.inr (Or.inr (Or.inr (Or.inr (Or.inr (Or.inl ⟨h0, h1, h2, h3, h4, h5⟩)))))
theorem okW.o {r : Row} {x : WS} (h0 : r.1 = 21 ∨ r.1 = 24 ∨ r.1 = 28 ∨ r.1 = 25) (h1 : r.1 = 28 → ¬ r.2.2.1 = 0) (h2 : 1 ≤ x.1.2.1) (h3 : 1 ≤ x.1.2.2.2) : okW r x := Or.inr (Or.inr (Or.inr (Or.inr (Or.inr (Or.inr (Or.inl ⟨h0, h1, h2, h3⟩))))))
theorem okW.n {r : Row} {x : WS} (h0 : r.1 = 1 ∨ r.1 = 2 ∨ r.1 = 22 ∨ r.1 = 23) : okW r x := Or.inr (Or.inr (Or.inr (Or.inr (Or.inr (Or.inr (Or.inr (Or.inl h0)))))))
theorem okW.b {r : Row} {x : WS} (h0 : r.1 = 26) (h1 : x.2.2.2.1 = false) : okW r x := Or.inr (Or.inr (Or.inr (Or.inr (Or.inr (Or.inr (Or.inr (Or.inr (Or.inl ⟨h0, h1⟩))))))))
theorem okW.c {r : Row} {x : WS} (h0 : r.1 = 27) (h1 : x.2.2.2.1 = false) (h2 : 1 ≤ x.2.2.2.2) : okW r x := Or.inr (Or.inr (Or.inr (Or.inr (Or.inr (Or.inr (Or.inr (Or.inr (Or.inr (⟨h0, h1, h2⟩)))))))))
def sdW : List Row → Nat → WS → Prop
  | [], _, _ => True
  | r :: l, i, x => okW r x ∧ sdW l (i + 1) (nxW r i x)
def fdW : List Row → Nat → WS → WS
  | [], _, x => x
  | r :: l, i, x => fdW l (i + 1) (nxW r i x)
section MJA90
variable {T : TT} {M : Nat}
theorem sdW_app : ∀ (a b : List Row) (i : Nat) (x : WS), sdW (a ++ b) i x ↔ sdW a i x ∧ sdW b (i + a.length) (fdW a i x)
  | [], b, i, x => ⟨fun h => ⟨trivial, h⟩, fun h => h.2⟩
  | r :: a, b, i, x => by
    show okW r x ∧ sdW (a ++ b) (i + 1) (nxW r i x) ↔ (okW r x ∧ sdW a (i + 1) (nxW r i x)) ∧ sdW b (i + (r :: a).length) (fdW a (i + 1) (nxW r i x))
    rw [sdW_app a b, and_assoc, List.length_cons, show i + 1 + a.length = i + (a.length + 1) by omega]
theorem fdW_app : ∀ (a b : List Row) (i : Nat) (x : WS), fdW (a ++ b) i x = fdW b (i + a.length) (fdW a i x)
  | [], _, _, _ => rfl
  | r :: a, b, i, x => by
    show fdW (a ++ b) (i + 1) (nxW r i x) = _
    rw [fdW_app a b, List.length_cons, show i + 1 + a.length = i + (a.length + 1) by omega]
    rfl
theorem nxW_E {r : Row} (h : isE r) (i : Nat) (x : WS) : nxW r i x = (hxE r x.1, x.2) := by
  unfold nxW
  rcases h with h | h | h | h | h | h | h | h | h | h | h | h | h <;> · rw [h, if_neg (by decide), if_neg (by decide), if_neg (by decide), if_neg (by decide), if_neg (by decide), if_neg (by decide), if_neg (by decide), if_neg (by decide), if_neg (by decide), if_neg (by decide)]
theorem sc_EW : ∀ (l : List Row) (i : Nat) (h : HS) (x : Nat × Nat × Bool × Nat), scE 60 20 120 l h → sdW l i (h, x) ∧ fdW l i (h, x) = (fdE l h, x)
  | [], i, h, x, _ => ⟨trivial, rfl⟩
  | r :: l, i, h, x, hs => by
    have e := nxW_E hs.1.1 i (h, x)
    obtain ⟨a, b⟩ := sc_EW l (i + 1) (hxE r h) x hs.2
    refine ⟨⟨okW.e hs.1, ?_⟩, ?_⟩
    · rw [e]; exact a
    · show fdW l (i + 1) (nxW r i (h, x)) = _
      rw [e]
      exact b
/-- an E in a STATEMENT -/
theorem gdE.W {c kq i : Nat} {y : PZ} (hy : gdE T c kq 40 12 112 y) {h q : Nat} {p : List (Nat × Nat)} (h1 : h ≤ 2) (h2 : p.length ≤ 2) (h3 : q ≤ 2) (x : Nat × Nat × Bool × Nat) : sdW y.2.2.2.1 i ((kq, h, p, q), x) ∧ fdW y.2.2.2.1 i ((kq, h, p, q), x) = ((kq + y.2.2.1.length, h + 1, p, q + 1), x) := by
  obtain ⟨a, b⟩ := hy.2 h p q 60 20 120 (by omega) (by omega) (by omega)
  obtain ⟨a2, b2⟩ := sc_EW _ i (kq, h, p, q) x a
  exact ⟨a2, by rw [b2, b]⟩
/-- what STATEMENTS leave, e BLOCKS deeper -/
def gdQ (T : TT) (e c td kq i0 : Nat) (y : PB) : Prop := kdR T c y.1 y.2.2.1 ∧ (kq + y.2.2.1.length < 100000 → ∀ lx D, ∃ lx', sdW y.2.2.2.1 i0 ((kq, 0, [], 0), td, lx, false, D) ∧ fdW y.2.2.2.1 i0 ((kq, 0, [], 0), td, lx, false, D) = ((kq + y.2.2.1.length, 0, [], 0), y.2.1, lx', false, D + e))
def gdS (T : TT) (c td kq i0 : Nat) (y : PB) : Prop := gdQ T 0 c td kq i0 y
theorem nx_same {r : Row} (h : r.1 = 1 ∨ r.1 = 2 ∨ r.1 = 22 ∨ r.1 = 23) (i : Nat) (x : WS) : nxW r i x = x := by
  unfold nxW
  rcases h with h | h | h | h <;> · rw [h, if_neg (by decide), if_neg (by decide), if_neg (by decide), if_neg (by decide), if_neg (by decide), if_neg (by decide), if_neg (by decide), if_pos (by decide)]
theorem nx_pop {r : Row} (h : r.1 = 21 ∨ r.1 = 24 ∨ r.1 = 28 ∨ r.1 = 25) (i : Nat) (x : WS) : nxW r i x = ((x.1.1, x.1.2.1 - 1, x.1.2.2.1, x.1.2.2.2 - 1), x.2) := by
  unfold nxW
  rcases h with h | h | h | h <;> · rw [h, if_neg (by decide), if_neg (by decide), if_neg (by decide), if_neg (by decide), if_neg (by decide), if_neg (by decide), if_pos (by decide)]
end MJA90
