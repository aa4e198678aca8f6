/-! ===== places of orders: the code's length does not depend on them ===== -/
def evP (E : EV) (ps : Nat → Nat) : EV := (E.1, E.2.1, E.2.2.1, E.2.2.2.1, E.2.2.2.2.1, E.2.2.2.2.2.1, ps)
/-- alike but for the jumps' targets -/
def jAl (a b : Option (JS × List Ins)) : Prop := match a, b with
  | none, none => True
  | some x, some y => x.1 = y.1 ∧ x.2.length = y.2.length
  | _, _ => False
section MJA51
variable {E : EV} {ps : Nat → Nat} {j : JS} {r : Row}
theorem jAl.rf (a : Option (JS × List Ins)) : jAl a a := by
  cases a with
  | none => exact True.intro
  | some x => exact ⟨rfl, rfl⟩
theorem jrow_pe (h21 : ¬ r.1 = 21) (h22 : ¬ r.1 = 22) (h23 : ¬ r.1 = 23) : jrow (evP E ps) r j = jrow E r j := by
  unfold jrow
  simp only [if_neg h21, if_neg h22, if_neg h23]
  rfl
theorem jrow_al : jAl (jrow (evP E ps) r j) (jrow E r j) := by
  by_cases h21 : r.1 = 21
  · obtain ⟨a, b⟩ := r
    have h21 : a = 21 := h21
    subst h21
    show jAl (match j.1 with
      | t :: st => if t.1 = 0 then some (jst j st ((jRS j).drop 1), [((7, nI (ps b.2.1.toNatClampNeg), -1) : Ins)]) else none
      | [] => none) (match j.1 with
      | t :: st => if t.1 = 0 then some (jst j st ((jRS j).drop 1), [((7, nI (E.2.2.2.2.2.2 b.2.1.toNatClampNeg), -1) : Ins)]) else none
      | [] => none)
    cases hj : j.1 with
    | nil => exact True.intro
    | cons t st =>
      dsimp only
      by_cases g : t.1 = 0
      · rw [if_pos g, if_pos g]; exact ⟨rfl, rfl⟩
      · rw [if_neg g, if_neg g]; exact True.intro
  · by_cases h22 : r.1 = 22
    · obtain ⟨a, b⟩ := r
      have h22 : a = 22 := h22
      subst h22
      exact ⟨rfl, rfl⟩
    · by_cases h23 : r.1 = 23
      · obtain ⟨a, b⟩ := r
        have h23 : a = 23 := h23
        subst h23
        exact ⟨rfl, rfl⟩
      · rw [jrow_pe h21 h22 h23]
        exact jAl.rf _
theorem jrun_al : ∀ (os : List Row) (j : JS), jAl (jrun (evP E ps) os j) (jrun E os j)
  | [], j => ⟨rfl, rfl⟩
  | r :: os, j => by
    have h := jrow_al (E := E) (ps := ps) (r := r) (j := j)
    show jAl (match jrow (evP E ps) r j with
      | none => none
      | some (j1, c1) => match jrun (evP E ps) os j1 with
        | none => none
        | some (j2, c2) => some (j2, c1 ++ c2)) (match jrow E r j with
      | none => none
      | some (j1, c1) => match jrun E os j1 with
        | none => none
        | some (j2, c2) => some (j2, c1 ++ c2))
    cases h1 : jrow (evP E ps) r j with
    | none =>
      cases h2 : jrow E r j with
      | none => exact True.intro
      | some y => rw [h1, h2] at h; exact h.elim
    | some x =>
      cases h2 : jrow E r j with
      | none => rw [h1, h2] at h; exact h.elim
      | some y =>
        rw [h1, h2] at h
        obtain ⟨j1, c1⟩ := x
        obtain ⟨j2, c2⟩ := y
        obtain ⟨e1, e2⟩ := h
        dsimp only at e1 e2
        subst e1
        dsimp only
        have ih := jrun_al os j1
        cases h3 : jrun (evP E ps) os j1 with
        | none =>
          cases h4 : jrun E os j1 with
          | none => exact True.intro
          | some y => rw [h3, h4] at ih; exact ih.elim
        | some x =>
          cases h4 : jrun E os j1 with
          | none => rw [h3, h4] at ih; exact ih.elim
          | some y =>
            rw [h3, h4] at ih
            obtain ⟨j3, c3⟩ := x
            obtain ⟨j4, c4⟩ := y
            obtain ⟨e3, e4⟩ := ih
            dsimp only at e3 e4
            subst e3
            exact ⟨rfl, by rw [List.length_append, List.length_append, e2, e4]⟩
/-- the places, by a first run without them -/
def psOf (E : EV) (i0 cs : Nat) (os : List Row) (j : JS) (i : Nat) : Nat := match jrun E (os.take (i - i0)) j with
  | some x => cs + x.2.length
  | none => 0
theorem PS_of (i0 cs : Nat) (os : List Row) : PS (evP E (psOf E i0 cs os j)) i0 cs os j := by
  intro a b j1 l1 e h
  show psOf E i0 cs os j (i0 + a.length) = cs + l1.length
  unfold psOf
  rw [show i0 + a.length - i0 = a.length by omega, e, List.take_left']
  · have al := jrun_al (E := E) (ps := psOf E i0 cs (a ++ b) j) a j
    rw [e] at h
    rw [h] at al
    cases h2 : jrun E a j with
    | none => rw [h2] at al; exact al.elim
    | some x =>
      rw [h2] at al
      dsimp only
      rw [al.2]
  · rfl
end MJA51
