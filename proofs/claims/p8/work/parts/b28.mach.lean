/-! ===== a RUN, pure ===== -/
/-- an OBJECT: its CLASS, its OWNERS (0: world), its FIELDS; how many there are, by number -/
abbrev OBJ : Type := Nat × (Nat → Nat) × (Nat → Int32)
abbrev HEAP : Type := Nat × (Nat → OBJ)
/-- a CALL: MEMBER (384: main), this, STATEMENT, VARIABLES, where its caller goes on -/
abbrev FRM : Type := Nat × Nat × Int32 × (Nat → Int32) × Nat
/-- most CALLS, how many numbers were said, which; STEPS; state; result; TROUBLE, its place -/
abbrev SCL : Type := Nat × Nat × (Nat → Int32) × Nat × Nat × Int32 × Int32 × Int32
/-- OBJECTS; CALLS, the last first; where the last one is; values, the last first -/
abbrev AMS : Type := HEAP × List FRM × Nat × List Int32 × SCL
def szO (T : TT) (L : List CD) (c : Nat) : Nat := 2 + nmL L c + fldT T L c
/-- the WORDS ahead of OBJECT o + 1 -/
def bsH (T : TT) (L : List CD) (H : HEAP) : Nat → Nat
  | 0 => 0
  | o + 1 => bsH T L H o + szO T L (H.2 (o + 1)).1
/-- OWNER i of a TYPE that tells OBJECT o by the NAMES of CLASS a -/
def seenO (T : TT) (L : List CD) (H : HEAP) (o a i : Nat) : Nat := match vwT (nmL L) (abT T L) (H.2 o).1 a with
  | some v => if oK v i < nmL L (H.2 o).1 then (H.2 o).2.1 (oK v i) else 0
  | none => 0
/-- what an OWNER is in the CALL of MEMBER m on OBJECT o -/
def hereO (T : TT) (L : List CD) (H : HEAP) (m o x : Nat) : Nat := if x = 5 ∨ o = 0 then 0 else if x = 6 then o else seenO T L H o (hmM L m) x
/-- E as KIND -/
def asO (T : TT) (L : List CD) (H : HEAP) (m o : Nat) (v : Int32) (k : Nat) : Bool := decide (v = 0) || ((vwT (nmL L) (abT T L) (H.2 (nN v)).1 (cK k)).isSome && allB (fun i => decide (seenO T L H (nN v) (cK k) i = hereO T L H m o (oK k i))) (nmL L (cK k)))
def setF (H : HEAP) (o i : Nat) (v : Int32) : HEAP := (H.1, fun x => if x = o then ((H.2 o).1, (H.2 o).2.1, fun y => if y = i then v else (H.2 o).2.2 y) else H.2 x)
def addO (H : HEAP) (c : Nat) (ow : Nat → Nat) : HEAP := (H.1 + 1, fun x => if x = H.1 + 1 then (c, ow, fun _ => 0) else H.2 x)
def two2 (op a b : Int32) : Option Int32 := if op = 43 then some (a + b) else if op = 45 then some (a - b) else if op = 42 then some (a * b) else if op = 47 then (if b = 0 then none else some (a / b)) else if op = 37 then (if b = 0 then none else some (a - a / b * b)) else if op = 60 then some (if b ≤ a then 0 else 1) else if op = 257 then some (if a = b then 1 else 0) else some (if a = b then 0 else 1)
def aFail (A : AMS) (n p : Int32) : AMS := (A.1, [], A.2.2.1, A.2.2.2.1, A.2.2.2.2.1, A.2.2.2.2.2.1, A.2.2.2.2.2.2.1, A.2.2.2.2.2.2.2.1, 3, A.2.2.2.2.2.2.2.2.2.1, n, p)
def aSt (A : AMS) (st : List Int32) : AMS := (A.1, A.2.1, A.2.2.1, st, A.2.2.2.2)
def aFs (A : AMS) (fs : List FRM) : AMS := (A.1, fs, A.2.2)
def aHp (A : AMS) (H : HEAP) : AMS := (H, A.2)
def aKs (A : AMS) (k : Nat) : AMS := (A.1, A.2.1, k, A.2.2.2)
/-- the number that an order asks for of what waits -/
def slotJ (E : EV) (r : Row) (j : JS) : Nat := match j.1 with
  | t :: _ => (match prtE E t r.2.2.2.2 false with
    | some p => numM E.1 E.2.1 p.1
    | none => 0)
  | [] => 0
def varJ (r : Row) (j : JS) : Nat := match vsK j.2.2.1 r.2.2.2.2 with
  | some e => e.2.2.1
  | none => 0
def setV (f : FRM) (n : Nat) (v : Int32) : FRM := (f.1, f.2.1, f.2.2.1, (fun i => if i = n then v else f.2.2.2.1 i), f.2.2.2.2)
/-- return v -/
def aRet (A : AMS) (f : FRM) (fs : List FRM) (v : Int32) : AMS := match fs with
  | [] => (A.1, [], A.2.2.1, A.2.2.2.1, A.2.2.2.2.1, A.2.2.2.2.2.1, A.2.2.2.2.2.2.1, A.2.2.2.2.2.2.2.1, 2, v, A.2.2.2.2.2.2.2.2.2.2)
  | _ :: _ => (A.1, fs, f.2.2.2.2, v :: A.2.2.2.1, A.2.2.2.2)
def aCall (T : TT) (L : List CD) (cm : Nat) (n m : Nat) (p : Int32) (A : AMS) (fs : List FRM) : AMS :=
  if (A.2.2.2.1)[n]?.getD 0 = 0 then aFail A 1 p
  else if fs.length = cm then aFail A 5 p
  else match memT T L (A.1.2 (nN ((A.2.2.2.1)[n]?.getD 0))).1 (nkM T L m) true with
    | none => A
    | some d => (A.1, (d, nN ((A.2.2.2.1)[n]?.getD 0), -1, (fun i => if i < n then (A.2.2.2.1)[n - 1 - i]?.getD 0 else 0), A.2.2.1) :: fs, 0, (A.2.2.2.1).drop (n + 1), (if A.2.2.2.2.1 < fs.length + 1 then fs.length + 1 else A.2.2.2.2.1), A.2.2.2.2.2)
/-- one order, which stands ahead of A's place -/
def aStep (T : TT) (L : List CD) (E : EV) (j : JS) (i0 wm cm : Nat) (r : Row) (A : AMS) : AMS := match A.2.1, A.2.2.2.1 with
  | [], _ => A
  | f :: fs, st =>
    if r.1 = 1 then aFs A ((f.1, f.2.1, r.2.1, f.2.2.2) :: fs)
    else if r.1 = 3 then aSt A (r.2.2.1 :: st)
    else if r.1 = 4 then aSt A (0 :: st)
    else if r.1 = 5 then aSt A (nI f.2.1 :: st)
    else if r.1 = 6 then aSt A (f.2.2.2.1 (varJ r j) :: st)
    else if r.1 = 7 then (match kdE E r.2.2.1 with
      | none => A
      | some k => if wm < bsH T L A.1 A.1.1 + szO T L (cK k) then aFail A 4 r.2.1 else aSt (aHp A (addO A.1 (cK k) (fun i => hereO T L A.1 f.1 f.2.1 (oK k i)))) (nI (A.1.1 + 1) :: st))
    else if r.1 = 8 then aSt A (-(st.headD 0) :: st.tail)
    else if r.1 = 9 then (match two2 r.2.2.1 (st.tail.headD 0) (st.headD 0) with
      | none => aFail A 2 r.2.1
      | some v => aSt A (v :: st.tail.tail))
    else if r.1 = 10 then (if st.headD 0 = 0 then aFail A 1 r.2.1 else aSt A ((A.1.2 (nN (st.headD 0))).2.2 (slotJ E r j) :: st.tail))
    else if r.1 = 13 then aCall T L cm (nN r.2.2.1) (j.2.1.headD (0, 0)).1 r.2.1 A (f :: fs)
    else if r.1 = 14 then (match kdE E r.2.2.1 with
      | none => A
      | some k => if asO T L A.1 f.1 f.2.1 (st.headD 0) k = true then A else aFail A 3 r.2.1)
    else if r.1 = 17 then aSt (aFs A (setV f j.2.2.2.2.2.2.1 (st.headD 0) :: fs)) st.tail
    else if r.1 = 18 then (if st.tail.headD 0 = 0 then aFail A 1 r.2.2.2.1 else aSt (aHp A (setF A.1 (nN (st.tail.headD 0)) j.2.2.2.2.2.2.1 (st.headD 0))) st.tail.tail)
    else if r.1 = 20 then aSt (aFs A (setV f j.2.2.2.1 (st.headD 0) :: fs)) st.tail
    else if r.1 = 21 then aSt (if st.headD 0 = 0 then aKs A (nN r.2.2.1 - i0) else A) st.tail
    else if r.1 = 22 ∨ r.1 = 23 then aKs A (nN r.2.2.1 - i0)
    else if r.1 = 24 then (A.1, A.2.1, A.2.2.1, st.tail, A.2.2.2.2.1, A.2.2.2.2.2.1 + 1, (fun i => if i = A.2.2.2.2.2.1 ∧ i < 200 then st.headD 0 else A.2.2.2.2.2.2.1 i), A.2.2.2.2.2.2.2)
    else if r.1 = 25 then aSt A st.tail
    else if r.1 = 28 then (if r.2.2.1 = 1 then aRet (aSt A st.tail) f fs (st.headD 0) else aRet A f fs 0)
    else A
def costs (r : Row) : Bool := decide (r.1 = 1 ∨ r.1 = 2 ∨ r.1 = 7 ∨ r.1 = 8 ∨ r.1 = 9 ∨ r.1 = 10 ∨ r.1 = 13 ∨ r.1 = 14)
section MJB28
variable {T : TT} {N : Nat} {L : List CD} {H H' : HEAP} {x y k o : Nat} {v : Int32}
/-- a value of that TYPE -/
def vOK (T : TT) (L : List CD) (H : HEAP) (x : Nat) (v : Int32) : Prop := match x with
  | 0 => True
  | 1 => v = 0
  | k + 2 => v = 0 ∨ ∃ o, 1 ≤ o ∧ o ≤ H.1 ∧ v = nI o ∧ (vwT (nmL L) (abT T L) (H.2 o).1 (cK k)).isSome = true
/-- no OBJECT goes, none changes its CLASS -/
def HX (H H' : HEAP) : Prop := H.1 ≤ H'.1 ∧ ∀ o, 1 ≤ o → o ≤ H.1 → (H'.2 o).1 = (H.2 o).1
theorem HX.rf : HX H H := ⟨Nat.le_refl _, fun _ _ _ => rfl⟩
theorem HX.tr {H'' : HEAP} (a : HX H H') (b : HX H' H'') : HX H H'' := ⟨Nat.le_trans a.1 b.1, fun o h1 h2 => (b.2 o h1 (Nat.le_trans h2 a.1)).trans (a.2 o h1 h2)⟩
theorem vOK.ext (h : vOK T L H x v) (e : HX H H') : vOK T L H' x v := by
  match x, h with
  | 0, _ => trivial
  | 1, h => exact h
  | k + 2, h =>
    rcases h with h | ⟨o, o1, o2, o3, o4⟩
    · exact Or.inl h
    · exact Or.inr ⟨o, o1, Nat.le_trans o2 e.1, o3, by rw [e.2 o o1 o2]; exact o4⟩
theorem vOK.zero : vOK T L H x 0 := by
  match x with
  | 0 => trivial
  | 1 => rfl
  | k + 2 => exact Or.inl rfl
theorem vOK.cls (h : vOK T L H x v) (e : ctT x = ctT y) : vOK T L H y v := by
  match x, y, h, e with
  | 0, 0, _, _ => trivial
  | 0, 1, _, e => cases e
  | 0, k + 2, _, e => have : 0 = cK k + 2 := e; omega
  | 1, 0, _, e => cases e
  | 1, 1, h, _ => exact h
  | 1, k + 2, h, _ => exact Or.inl h
  | k + 2, 0, _, e => have : cK k + 2 = 0 := e; omega
  | k + 2, 1, _, e => have : cK k + 2 = 1 := e; omega
  | k + 2, y + 2, h, e =>
    have e' : cK k = cK y := by have : cK k + 2 = cK y + 2 := e; omega
    rcases h with h | ⟨o, o1, o2, o3, o4⟩
    · exact Or.inl h
    · exact Or.inr ⟨o, o1, o2, o3, by rw [← e']; exact o4⟩
/-- a value that fits -/
theorem vOK.fit (Ac : ACY T N L) (hc : ∀ o, 1 ≤ o → o ≤ H.1 → (H.2 o).1 < L.length) (hx : tOK L x) (h : vOK T L H x v) (f : fitT T L x y = true) : vOK T L H y v := by
  match x, y, h, f, hx with
  | 0, 0, _, _, _ => trivial
  | 0, 1, _, f, _ => exact absurd f (by show ¬ decide ((0 : Nat) = 1) = true; decide)
  | 0, k + 2, _, f, _ =>
    have : (0 : Nat) = k + 2 := of_decide_eq_true f
    omega
  | 1, y, h, f, _ =>
    have e : v = 0 := h
    rw [e]
    exact vOK.zero
  | k + 2, 0, _, f, _ =>
    have : k + 2 = 0 := of_decide_eq_true f
    omega
  | k + 2, 1, _, f, _ =>
    have : k + 2 = 1 := of_decide_eq_true f
    omega
  | k + 2, y + 2, h, f, hx =>
    rcases h with h | ⟨o, o1, o2, o3, o4⟩
    · exact Or.inl h
    · refine Or.inr ⟨o, o1, o2, o3, ?_⟩
      have kc := tOK.k hx
      have oc := hc o o1 o2
      obtain ⟨i, hi⟩ := (vw_iff Ac oc).mp o4
      have f' : (match vwT (nmL L) (abT T L) (cK k) (cK y) with
        | some v => decide (stand (nmL L) v k = y)
        | none => false) = true := f
      cases hv : vwT (nmL L) (abT T L) (cK k) (cK y) with
      | none => rw [hv] at f'; cases f'
      | some w =>
        obtain ⟨i2, hi2⟩ := (vw_iff Ac kc).mp (show (vwT (nmL L) (abT T L) (cK k) (cK y)).isSome = true by rw [hv]; rfl)
        refine (vw_iff Ac oc).mpr ⟨i + i2, ?_⟩
        rw [upI_add, hi]
        exact hi2
end MJB28
