/-! ===== what waits at every order of a BLOCK ===== -/
def n20 : List Row → Nat
  | [] => 0
  | r :: l => (if r.1 = 20 then 1 else 0) + n20 l
/-- how many values wait -/
def vG : GS → Nat
  | [] => 0
  | (0, _) :: G => 1 + vG G
  | (1, 0, _) :: G => vG G
  | (1, _ + 1, _) :: G => 1 + vG G
  | (_ + 2, i, _) :: G => i + 1 + vG G
/-- the TYPES of the VARIABLES, by number -/
def vtR (E : EV) : List Row → JS → Nat → Nat
  | [], _ => fun _ => 1
  | r :: os, j => match jrow E r j with
    | none => fun _ => 0
    | some (j', _) => fun v => if r.1 = 20 ∧ v = j.2.2.2.1 then j.2.2.2.2.2.1.2 else vtR E os j' v
section MJB26
variable {T : TT} {N : Nat} {L : List CD} {E : EV} {vt : Nat → Nat} {j j' : JS} {r : Row} {G : GS} {l : List Ins} {x : WS}
theorem td_step (ok : okG r G) (h : jrow E r j = some (j', l)) : j'.2.2.2.1 = j.2.2.2.1 + (if r.1 = 20 then 1 else 0) ∧ l.length ≤ 1 := by
  rcases ok with o | ⟨o, _⟩ | ⟨o, _⟩ | ⟨o, _⟩ | ⟨o, _⟩ | ⟨o, _⟩ | ⟨o, _⟩ | ⟨o, _⟩ | ⟨o, _⟩ | ⟨o, _⟩ | ⟨o, _⟩ | ⟨o, _⟩
  · rcases o with o | o | o | o | o
    · rw [if_neg (by rw [o]; decide)]; rw [jr_3 o] at h; cases h; exact ⟨rfl, Nat.le_refl _⟩
    · rw [if_neg (by rw [o]; decide)]; rw [jr_4 o] at h; cases h; exact ⟨rfl, Nat.le_refl _⟩
    · rw [if_neg (by rw [o]; decide)]; rw [jr_5 o] at h; split at h <;> first | (cases h; exact ⟨rfl, Nat.le_refl _⟩) | cases h
    · rw [if_neg (by rw [o]; decide)]; rw [jr_6 o] at h; split at h <;> first | (cases h; exact ⟨rfl, Nat.le_refl _⟩) | cases h
    · rw [if_neg (by rw [o]; decide)]; rw [jr_7 o] at h; split at h <;> first | (cases h; exact ⟨rfl, Nat.le_refl _⟩) | cases h
  · rw [if_neg (by rw [o]; decide)]; rw [jr_9 o] at h
    split at h
    · split at h
      · split at h
        · cases h; exact ⟨rfl, Nat.le_refl _⟩
        · cases h
      · split at h
        · cases h; exact ⟨rfl, Nat.le_refl _⟩
        · cases h
    · cases h
  · rcases o with o | o | o | o
    · rw [if_neg (by rw [o]; decide)]; rw [jr_8 o] at h
      split at h
      · split at h
        · cases h; exact ⟨rfl, Nat.le_refl _⟩
        · cases h
      · cases h
    · rw [if_neg (by rw [o]; decide)]; rw [jr_10 o] at h
      split at h
      · split at h
        · cases h
        · cases h; exact ⟨rfl, Nat.le_refl _⟩
      · cases h
    · rw [if_neg (by rw [o]; decide)]; rw [jr_14 o] at h
      split at h
      · split at h
        · cases h
        · split at h
          · cases h
          · cases h; exact ⟨rfl, Nat.le_refl _⟩
      · cases h
    · rw [if_neg (by rw [o]; decide)]; rw [jr_30 o] at h
      split at h
      · cases h; exact ⟨rfl, Nat.zero_le _⟩
      · cases h
  · rw [if_neg (by rw [o]; decide)]; rw [jr_11 o] at h
    split at h
    · split at h
      · cases h
      · split at h
        · cases h; exact ⟨rfl, Nat.zero_le _⟩
        · cases h
    · cases h
  · rw [if_neg (by rw [o]; decide)]; rw [jr_12 o] at h
    split at h
    · split at h
      · cases h; exact ⟨rfl, Nat.zero_le _⟩
      · cases h
    · cases h
  · rw [if_neg (by rw [o]; decide)]; rw [jr_13 o] at h
    split at h
    · cases h; exact ⟨rfl, Nat.le_refl _⟩
    · cases h
  · rw [if_neg (by rw [o]; decide)]; rw [jr_15 o] at h
    split at h
    · cases h
    · cases h; exact ⟨rfl, Nat.zero_le _⟩
  · rw [if_neg (by rw [o]; decide)]; rw [jr_16 o] at h
    split at h
    · split at h
      · cases h
      · cases h; exact ⟨rfl, Nat.zero_le _⟩
    · cases h
  · rw [if_neg (by rw [o]; decide)]; rw [jr_17 o] at h
    split at h
    · split at h
      · cases h; exact ⟨rfl, Nat.le_refl _⟩
      · cases h
    · cases h
  · rw [if_neg (by rw [o]; decide)]; rw [jr_18 o] at h
    split at h
    · split at h
      · cases h; exact ⟨rfl, Nat.le_refl _⟩
      · cases h
    · cases h
  · rcases o with o | o | o | o | o
    · rw [if_pos o]; rw [jr_20 o] at h
      split at h
      · split at h
        · cases h; exact ⟨rfl, Nat.le_refl _⟩
        · cases h
      · cases h
    · rw [if_neg (by rw [o]; decide)]; rw [jr_21 o] at h
      split at h
      · split at h
        · cases h; exact ⟨rfl, Nat.le_refl _⟩
        · cases h
      · cases h
    · rw [if_neg (by rw [o]; decide)]; rw [jr_24 o] at h
      split at h
      · split at h
        · cases h; exact ⟨rfl, Nat.le_refl _⟩
        · cases h
      · cases h
    · rw [if_neg (by rw [o]; decide)]; rw [jr_25 o] at h
      split at h
      · cases h; exact ⟨rfl, Nat.le_refl _⟩
      · cases h
    · rw [if_neg (by rw [o.1]; decide)]; rw [jr_28 o.1] at h
      split at h
      · split at h
        · cases h; exact ⟨rfl, Nat.le_refl _⟩
        · cases h
      · cases h
  · rcases o with o | o | o | o | o | o | o
    · rw [if_neg (by rw [o]; decide)]; rw [jr_1 o] at h; cases h; exact ⟨rfl, Nat.le_refl _⟩
    · rw [if_neg (by rw [o]; decide)]; rw [jr_2 o] at h; cases h; exact ⟨rfl, Nat.le_refl _⟩
    · rw [if_neg (by rw [o]; decide)]; rw [jr_19 o] at h
      split at h
      · cases h
      · split at h
        · cases h; exact ⟨rfl, Nat.zero_le _⟩
        · cases h
    · rw [if_neg (by rw [o]; decide)]; rw [jr_22 o] at h; cases h; exact ⟨rfl, Nat.le_refl _⟩
    · rw [if_neg (by rw [o]; decide)]; rw [jr_23 o] at h; cases h; exact ⟨rfl, Nat.le_refl _⟩
    · rw [if_neg (by rw [o]; decide)]; rw [jr_26 o] at h; cases h; exact ⟨rfl, Nat.zero_le _⟩
    · rw [if_neg (by rw [o]; decide)]; rw [jr_27 o] at h; cases h; exact ⟨rfl, Nat.zero_le _⟩
theorem jcons2 {os : List Row} {lq : List Ins} (h : jrun E (r :: os) j = some (j', lq)) : ∃ j1 l1 l2, jrow E r j = some (j1, l1) ∧ jrun E os j1 = some (j', l2) ∧ lq = l1 ++ l2 := by
  have h' : (match jrow E r j with
    | none => none
    | some (j1, c1) => match jrun E os j1 with
      | none => none
      | some (j2, c2) => some (j2, c1 ++ c2)) = some (j', lq) := h
  cases h1 : jrow E r j with
  | none => rw [h1] at h'; cases h'
  | some y =>
    obtain ⟨j1, l1⟩ := y
    rw [h1] at h'
    dsimp only at h'
    cases h2 : jrun E os j1 with
    | none => rw [h2] at h'; cases h'
    | some y2 =>
      obtain ⟨j2, l2⟩ := y2
      rw [h2] at h'
      have e := Option.some.inj h'
      rw [Prod.mk.injEq] at e
      exact ⟨j1, l1, l2, rfl, by rw [h2, e.1], e.2.symm⟩
theorem td_run : ∀ (a : List Row) (j : JS) (G : GS) (j' : JS) (l : List Ins), sdG a G → jrun E a j = some (j', l) → j'.2.2.2.1 = j.2.2.2.1 + n20 a ∧ l.length ≤ a.length
  | [], j, G, j', l, _, h => by cases h; exact ⟨rfl, Nat.le_refl _⟩
  | r :: a, j, G, j', l, sc, h => by
    obtain ⟨j1, l1, l2, h1, h2, h3⟩ := jcons2 h
    obtain ⟨a1, a2⟩ := td_step sc.1 h1
    obtain ⟨b1, b2⟩ := td_run a j1 (nxG r G) j' l2 sc.2 h2
    refine ⟨?_, by rw [h3, List.length_append, List.length_cons]; omega⟩
    show _ = _ + ((if r.1 = 20 then 1 else 0) + n20 a)
    omega
/-- a VARIABLE's TYPE is that of the order that tells it -/
theorem vtR_at : ∀ (a b : List Row) (j0 : JS) (G : GS) (j : JS) (l : List Ins), sdG a G → jrun E a j0 = some (j, l) → r.1 = 20 → (∃ y, jrow E r j = some y) → vtR E (a ++ r :: b) j0 j.2.2.2.1 = j.2.2.2.2.2.1.2
  | [], b, j0, G, j, l, _, h, hr, ⟨y, hy⟩ => by
    cases h
    obtain ⟨j1, l1⟩ := y
    show (match jrow E r j0 with
      | none => fun _ => 0
      | some (j', _) => fun v => if r.1 = 20 ∧ v = j0.2.2.2.1 then j0.2.2.2.2.2.1.2 else vtR E b j' v) j0.2.2.2.1 = _
    rw [hy]
    exact if_pos ⟨hr, rfl⟩
  | x :: a, b, j0, G, j, l, sc, h, hr, hy => by
    obtain ⟨j1, l1, l2, h1, h2, h3⟩ := jcons2 h
    have t1 := (td_step sc.1 h1).1
    have t2 := (td_run a j1 _ j l2 sc.2 h2).1
    show (match jrow E x j0 with
      | none => fun _ => 0
      | some (j', _) => fun v => if x.1 = 20 ∧ v = j0.2.2.2.1 then j0.2.2.2.2.2.1.2 else vtR E (a ++ r :: b) j' v) j.2.2.2.1 = _
    rw [h1]
    dsimp only
    rw [if_neg (fun q => by
      rw [if_pos q.1] at t1
      have := q.2
      omega)]
    exact vtR_at a b j1 _ j l2 sc.2 h2 hr hy
theorem rel_run (Ac : ACY E.1 N E.2.1) (p6 : ∀ m, m < nMem E.2.1 → (psM E.2.1 m).length ≤ 6) (hh : ∀ c, E.2.2.2.2.1 = some c → c < E.2.1.length) : ∀ (a : List Row) (j : JS) (G : GS) (j' : JS) (l : List Ins), sdG a G → JOK E.1 E.2.1 vt j G → jrun E a j = some (j', l) → (∀ a1 r a2 j2 l2, a = a1 ++ r :: a2 → r.1 = 20 → jrun E a1 j = some (j2, l2) → vt j2.2.2.2.1 = j2.2.2.2.2.2.1.2 ∧ j2.2.2.2.1 < 16) → JOK E.1 E.2.1 vt j' (fdG a G)
  | [], j, G, j', l, _, J, h, _ => by cases h; exact J
  | r :: a, j, G, j', l, sc, J, h, hv => by
    obtain ⟨j1, l1, l2, h1, h2, h3⟩ := jcons2 h
    have J1 := rel_step Ac p6 hh sc.1 J h1 (fun e => hv [] r a j [] rfl e rfl)
    refine rel_run Ac p6 hh a j1 (nxG r G) j' l2 sc.2 J1 h2 (fun a1 r' a2 j2 l3 ea er ej => hv (r :: a1) r' a2 j2 (l1 ++ l3) (by rw [ea]; rfl) er ?_)
    show (match jrow E r j with
      | none => none
      | some (j1, c1) => match jrun E a1 j1 with
        | none => none
        | some (j2, c2) => some (j2, c1 ++ c2)) = some (j2, l1 ++ l3)
    rw [h1]
    dsimp only
    rw [ej]
theorem RELj_len {lf : Nat} : ∀ (G : GS) (st : List (Nat × Bool)) (pd : List (Nat × Nat)) (rs : List Nat), RELj T L vt lf G st pd rs → rs.length = vG G
  | [], st, pd, rs, h => by rw [h.2.2]; rfl
  | (0, a, w) :: G, st, pd, rs, h => by
    obtain ⟨t, st', rs', _, e2, h2⟩ := h
    rw [e2, List.length_cons, RELj_len G st' pd rs' h2]
    show _ = 1 + vG G
    omega
  | (1, 0, w) :: G, st, pd, rs, h => by
    obtain ⟨t, st', _, _, h2⟩ := h
    exact RELj_len G st' pd rs h2
  | (1, a + 1, w) :: G, st, pd, rs, h => by
    obtain ⟨t, st', x, rs', _, e2, _, h2⟩ := h
    rw [e2, List.length_cons, RELj_len G st' pd rs' h2]
    show _ = 1 + vG G
    omega
  | (n + 2, i, w) :: G, st, pd, rs, h => by
    obtain ⟨p, pd', as, x, rs', _, e2, ⟨k, _, _, _, c4, _⟩, h2⟩ := h
    rw [e2, List.length_append, List.length_cons, RELj_len G st pd' rs' h2, c4]
    show _ = i + 1 + vG G
    omega
end MJB26
