/-! ===== (f): how BLOCKS are judged, over the orders ===== -/
/-- the FIELD (false) or METHOD (true) of that NAME that CLASS c has -/
def memT (T : TT) (L : List CD) (c : Nat) (k : Int64) (isM : Bool) : Option Nat := (anc (upT T L) 16 (some c)).findSome? (fun a => match omT T L a k with
  | some m => if mSM L m = isM then some m else none
  | none => none)
/-- a MEMBER that has this in a TYPE -/
def hidM (T : TT) (L : List CD) (m : Nat) : Bool := hasT (tyM T L m) || anyB (fun i => hasT (pyT T L m i)) (psM L m).length
def fitT (T : TT) (L : List CD) (t w : Nat) : Bool := match t, w with
  | 1, w => decide (¬ w = 0)
  | k + 2, w + 2 => (match vwT (nmL L) (abT T L) (cK k) (cK w) with
    | some v => decide (stand (nmL L) v k = w)
    | none => false)
  | t, w => decide (t = w)
/-- the OWNERS of an E of KIND k as those of the CLASS in which MEMBER m is told -/
def seenT (T : TT) (L : List CD) (k m : Nat) : Nat := match vwT (nmL L) (abT T L) (cK k) (hmM L m) with
  | some v => stand (nmL L) v k
  | none => 0
abbrev Ins : Type := Int32 × Int32 × Int32
/-- TYPES (alone?) of what waits; calls that wait (METHOD, OWNERS); VARIABLES known (NAME, TYPE, number, depth); told; depth; the one that is told; what is left of = ; TYPES of the values of a RUN -/
abbrev JS : Type := List (Nat × Bool) × List (Nat × Nat) × List (Int64 × Nat × Nat × Nat) × Nat × Nat × (Int64 × Nat) × Nat × List Nat
/-- TOKENS, CLASSES, trust, KINDS' tokens by number, CLASS (none: main), what return gives, places of orders in the code -/
abbrev EV : Type := TT × List CD × Bool × (Int32 → Nat) × Option Nat × Nat × (Nat → Nat)
def opr (a : Int32) : Int32 := if a = 37 then 21 else if a = 42 then 19 else if a = 43 then 17 else if a = 45 then 18 else if a = 47 then 20 else if a = 60 then 22 else if a = 257 then 23 else 24
def vsK (vs : List (Int64 × Nat × Nat × Nat)) (n : Int64) : Option (Int64 × Nat × Nat × Nat) := vs.find? (fun e => decide (e.1 = n))
/-- the KIND of an order, if it may stand there -/
def kdE (E : EV) (a : Int32) : Option Nat := match kdT E.1 E.2.1 E.2.2.2.2.1 false (E.2.2.2.1 a) with
  | some k => if (E.2.2.1 || nsT E.1 E.2.1 E.2.2.2.2.1 k) = true then some k else none
  | none => none
/-- a TYPE of an order (-1: int) -/
def tyE (E : EV) (a : Int32) : Option Nat := if a = -1 then some 0 else (kdE E a).map (· + 2)
/-- the FIELD or METHOD that is asked for -/
def prtE (E : EV) (t : Nat × Bool) (n : Int64) (isM : Bool) : Option (Nat × Nat) := match t.1 with
  | k + 2 => (match memT E.1 E.2.1 (cK k) n isM with
    | some m => if (!t.2 && hidM E.1 E.2.1 m) = true then none else some (m, seenT E.1 E.2.1 k m)
    | none => none)
  | _ => none
def jpush (j : JS) (t : Nat) (al : Bool) (rs : List Nat) : JS := ((t, al) :: j.1, j.2.1, j.2.2.1, j.2.2.2.1, j.2.2.2.2.1, j.2.2.2.2.2.1, j.2.2.2.2.2.2.1, rs)
def jst (j : JS) (st : List (Nat × Bool)) (rs : List Nat) : JS := (st, j.2.1, j.2.2.1, j.2.2.2.1, j.2.2.2.2.1, j.2.2.2.2.2.1, j.2.2.2.2.2.2.1, rs)
def jRS (j : JS) : List Nat := j.2.2.2.2.2.2.2
def jrow (E : EV) (r : Row) (j : JS) : Option (JS × List Ins) :=
  if r.1 = 3 then some (jpush j 0 false (0 :: jRS j), [(0, r.2.2.1, -1)])
  else if r.1 = 4 then some (jpush j 1 false (1 :: jRS j), [(0, 0, -1)])
  else if r.1 = 5 then (match E.2.2.2.2.1 with
    | none => none
    | some c => some (jpush j (own (nmL E.2.1) c + 2) true ((own (nmL E.2.1) c + 2) :: jRS j), [(3, 0, -1)]))
  else if r.1 = 6 then (match vsK j.2.2.1 r.2.2.2.2 with
    | none => none
    | some e => some (jpush j e.2.1 false (e.2.1 :: jRS j), [(1, nI e.2.2.1, -1)]))
  else if r.1 = 15 then (match vsK j.2.2.1 r.2.2.2.2 with
    | none => none
    | some e => some (((e.2.1, false) :: j.1, j.2.1, j.2.2.1, j.2.2.2.1, j.2.2.2.2.1, j.2.2.2.2.2.1, e.2.2.1, jRS j), []))
  else if r.1 = 7 then (match kdE E r.2.2.1 with
    | none => none
    | some k => some (jpush j (k + 2) false ((k + 2) :: jRS j), [(14, nI k, r.2.1)]))
  else if r.1 = 30 then (match j.1 with
    | t :: st => some (jst j ((t.1, false) :: st) (jRS j), [])
    | [] => none)
  else if r.1 = 8 then (match j.1 with
    | t :: _ => if t.1 = 0 then some (j, [(16, 0, r.2.1)]) else none
    | [] => none)
  else if r.1 = 9 then (match j.1 with
    | t2 :: t1 :: st => if (if r.2.2.1 = 257 ∨ r.2.2.1 = 258 then (t1.1 = 0 ↔ t2.1 = 0) else (t1.1 = 0 ∧ t2.1 = 0)) then some (jst j ((0, false) :: st) (0 :: (jRS j).drop 2), [(opr r.2.2.1, 0, r.2.1)]) else none
    | _ => none)
  else if r.1 = 10 then (match j.1 with
    | t :: st => (match prtE E t r.2.2.2.2 false with
      | none => none
      | some p => some (jst j ((sty (nmL E.2.1) (tyM E.1 E.2.1 p.1) p.2, false) :: st) (sty (nmL E.2.1) (tyM E.1 E.2.1 p.1) p.2 :: (jRS j).drop 1), [(12, nI (numM E.1 E.2.1 p.1), r.2.1)]))
    | [] => none)
  else if r.1 = 16 then (match j.1 with
    | t :: st => (match prtE E t r.2.2.2.2 false with
      | none => none
      | some p => some (((sty (nmL E.2.1) (tyM E.1 E.2.1 p.1) p.2, false) :: st, j.2.1, j.2.2.1, j.2.2.2.1, j.2.2.2.2.1, j.2.2.2.2.2.1, numM E.1 E.2.1 p.1, jRS j), []))
    | [] => none)
  else if r.1 = 11 then (match j.1 with
    | t :: st => (match prtE E t r.2.2.2.2 true with
      | none => none
      | some p => if nI (psM E.2.1 p.1).length = r.2.2.2.1 then some ((st, p :: j.2.1, j.2.2), []) else none)
    | [] => none)
  else if r.1 = 12 then (match j.1, j.2.1 with
    | t :: st, p :: _ => if fitT E.1 E.2.1 t.1 (sty (nmL E.2.1) (pyT E.1 E.2.1 p.1 r.2.2.1.toNatClampNeg) p.2) = true then some (jst j st (jRS j), []) else none
    | _, _ => none)
  else if r.1 = 13 then (match j.2.1 with
    | p :: pd => some (((sty (nmL E.2.1) (tyM E.1 E.2.1 p.1) p.2, false) :: j.1, pd, j.2.2.1, j.2.2.2.1, j.2.2.2.2.1, j.2.2.2.2.2.1, j.2.2.2.2.2.2.1, sty (nmL E.2.1) (tyM E.1 E.2.1 p.1) p.2 :: (jRS j).drop ((psM E.2.1 p.1).length + 1)), [(13, nI p.1, r.2.1)])
    | [] => none)
  else if r.1 = 14 then (match j.1 with
    | t :: st => (match kdE E r.2.2.1 with
      | none => none
      | some k => if t.1 = 0 then none else some (jst j ((k + 2, false) :: st) ((k + 2) :: (jRS j).drop 1), [(15, nI k, r.2.1)]))
    | [] => none)
  else if r.1 = 17 then (match j.1 with
    | t2 :: t1 :: st => if fitT E.1 E.2.1 t2.1 t1.1 = true then some (jst j st ((jRS j).drop 1), [(2, nI j.2.2.2.2.2.2.1, -1)]) else none
    | _ => none)
  else if r.1 = 18 then (match j.1 with
    | t2 :: t1 :: st => if fitT E.1 E.2.1 t2.1 t1.1 = true then some (jst j st ((jRS j).drop 2), [(4, nI j.2.2.2.2.2.2.1, r.2.2.2.1)]) else none
    | _ => none)
  else if r.1 = 19 then (match tyE E r.2.2.1 with
    | none => none
    | some t => if vsK j.2.2.1 r.2.2.2.2 = none then some ((j.1, j.2.1, j.2.2.1, j.2.2.2.1, j.2.2.2.2.1, (r.2.2.2.2, t), j.2.2.2.2.2.2), []) else none)
  else if r.1 = 20 then (match j.1 with
    | t :: st => if fitT E.1 E.2.1 t.1 j.2.2.2.2.2.1.2 = true then some ((st, j.2.1, j.2.2.1 ++ [(j.2.2.2.2.2.1.1, j.2.2.2.2.2.1.2, j.2.2.2.1, j.2.2.2.2.1)], j.2.2.2.1 + 1, j.2.2.2.2.1, j.2.2.2.2.2.1, j.2.2.2.2.2.2.1, (jRS j).drop 1), [(2, nI j.2.2.2.1, -1)]) else none
    | [] => none)
  else if r.1 = 21 then (match j.1 with
    | t :: st => if t.1 = 0 then some (jst j st ((jRS j).drop 1), [(7, nI (E.2.2.2.2.2.2 r.2.2.1.toNatClampNeg), -1)]) else none
    | [] => none)
  else if r.1 = 24 then (match j.1 with
    | t :: st => if t.1 = 0 then some (jst j st ((jRS j).drop 1), [(8, 0, -1)]) else none
    | [] => none)
  else if r.1 = 28 then (match j.1 with
    | t :: st => if fitT E.1 E.2.1 t.1 E.2.2.2.2.2.1 = true then some (jst j st ((jRS j).drop 1), [(9, 0, -1)]) else none
    | [] => none)
  else if r.1 = 25 then (match j.1 with
    | _ :: st => some (jst j st ((jRS j).drop 1), [(5, 0, -1)])
    | [] => none)
  else if r.1 = 26 then some ((j.1, j.2.1, j.2.2.1, j.2.2.2.1, j.2.2.2.2.1 + 1, j.2.2.2.2.2), [])
  else if r.1 = 27 then some ((j.1, j.2.1, j.2.2.1.filter (fun e => decide (¬ e.2.2.2 = j.2.2.2.2.1)), j.2.2.2.1, j.2.2.2.2.1 - 1, j.2.2.2.2.2), [])
  else if r.1 = 1 then some (j, [(10, 0, r.2.1)])
  else if r.1 = 2 then some (j, [(11, 0, -1)])
  else if r.1 = 22 then some (j, [(6, nI (E.2.2.2.2.2.2 r.2.2.1.toNatClampNeg), -1)])
  else if r.1 = 23 then some (j, [(6, nI (E.2.2.2.2.2.2 r.2.2.1.toNatClampNeg), -1)])
  else none
/-- orders one behind the other -/
def jrun (E : EV) : List Row → JS → Option (JS × List Ins)
  | [], j => some (j, [])
  | r :: rs, j => match jrow E r j with
    | none => none
    | some (j1, c1) => match jrun E rs j1 with
      | none => none
      | some (j2, c2) => some (j2, c1 ++ c2)
theorem jrun_app (E : EV) : ∀ (a b : List Row) (j : JS), jrun E (a ++ b) j = match jrun E a j with
    | none => none
    | some (j1, c1) => match jrun E b j1 with
      | none => none
      | some (j2, c2) => some (j2, c1 ++ c2)
  | [], b, j => by
    show jrun E b j = match jrun E b j with
      | none => none
      | some (j2, c2) => some (j2, [] ++ c2)
    cases h : jrun E b j with
    | none => rfl
    | some x => rfl
  | r :: a, b, j => by
    show (match jrow E r j with
      | none => none
      | some (j1, c1) => match jrun E (a ++ b) j1 with
        | none => none
        | some (j2, c2) => some (j2, c1 ++ c2)) = match (match jrow E r j with
      | none => none
      | some (j1, c1) => match jrun E a j1 with
        | none => none
        | some (j2, c2) => some (j2, c1 ++ c2)) with
      | none => none
      | some (j1, c1) => match jrun E b j1 with
        | none => none
        | some (j2, c2) => some (j2, c1 ++ c2)
    cases h : jrow E r j with
    | none => rfl
    | some x =>
      obtain ⟨j1, c1⟩ := x
      dsimp only
      rw [jrun_app E a b j1]
      cases h2 : jrun E a j1 with
      | none => rfl
      | some y =>
        obtain ⟨j2, c2⟩ := y
        dsimp only
        cases h3 : jrun E b j2 with
        | none => rfl
        | some z =>
          obtain ⟨j3, c3⟩ := z
          dsimp only
          rw [List.append_assoc]
theorem jrun_1 (E : EV) (r : Row) (j : JS) : jrun E [r] j = jrow E r j := by
  show (match jrow E r j with
    | none => none
    | some (j1, c1) => some (j1, c1 ++ [])) = _
  cases h : jrow E r j with
  | none => rfl
  | some x =>
    obtain ⟨j1, c1⟩ := x
    dsimp only
    rw [List.append_nil]
