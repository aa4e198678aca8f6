/-! ===== the Coder: STATEMENTS ===== -/
def oSt (q : Nat) : mjSt3 → mjSt3 → Prop := offG (fun h j => c58 h j ∨ (h = 75 ∧ 11 ≤ j ∧ j ≤ 16) ∨ h = 77 ∨ h = 78 ∨ (h = q + 24 ∧ j = 3) ∨ (q + 25 ≤ h ∧ h ≤ q + 27)) (fun h _ => h = 76)
/-- where the orders' code stands -/
def PS (E : EV) (i0 cs : Nat) (os : List Row) (j : JS) : Prop := ∀ (a b : List Row) (j1 : JS) (l1 : List Ins), os = a ++ b → jrun E a j = some (j1, l1) → E.2.2.2.2.2.2 (i0 + a.length) = cs + l1.length
/-- what STATEMENTS leave: what waits; VARIABLES of this BLOCK may be more -/
def JK (j j' : JS) : Prop := j'.1 = j.1 ∧ j'.2.1 = j.2.1 ∧ (∃ nw, j'.2.2.1 = j.2.2.1 ++ nw ∧ ∀ e, e ∈ nw → e.2.2.2 = j.2.2.2.2.1) ∧ j'.2.2.2.2.1 = j.2.2.2.2.1 ∧ jRS j' = jRS j
def VD (j : JS) : Prop := ∀ e, e ∈ j.2.2.1 → e.2.2.2 ≤ j.2.2.2.2.1
def RT (E : EV) (s : mjSt3) : Prop := s.1 75 7 = tyI E.2.2.2.2.2.1 ∧ vT E.2.1 E.2.2.2.2.2.1
def atS (E : EV) (N q : Nat) (s0 : mjSt3) (c0 cs : Nat) (j0 : JS) (os : List Row) (s : mjSt3) (c : Nat) (j : JS) (l : List Ins) : Prop := jrun E os j0 = some (j, l) ∧ CE E N q s j (cs + l.length) ∧ fne s c ∧ CL q s cs l ∧ CP q cs s0 s ∧ oSt q s0 s ∧ l.length + c0 ≤ c ∧ c ≤ N ∧ JK j0 j
def gSm (E : EV) (N q : Nat) (s0 : mjSt3) (c0 cs : Nat) (j0 : JS) (os : List Row) (u : mjU) (c' td : Nat) : Prop := (∃ s j l, u = some (none, mjW0 s) ∧ atS E N q s0 c0 cs j0 os s c' j l ∧ j.2.2.2.1 = td) ∨ (∃ s, u = some (none, mjW0 s) ∧ bdC E N q s0 j0 os s)
def hSt (E : EV) (N q D me x : Nat) (rd : Nat → Nat → Nat → Nat → PY) : Prop := ∀ (c kq i0 cs : Nat) (s : mjSt3) (j : JS) (z : PB), c ≤ N → CE E N q s j cs → RT E s → VD j → fne s c → rd c j.2.2.2.1 kq i0 = .inr z → KT E.2.2.2.1 kq z.2.2.1 → AG s z.2.2.2.2 → PS E i0 cs z.2.2.2.1 j → cs + (z.1 - c) ≤ 3090 → i0 + z.2.2.2.1.length ≤ 100000 → kq + z.2.2.1.length ≤ 100000 → gSm E N q s (c + x) cs j z.2.2.2.1 (mjF D me [.ref 75] (mjW0 s)) z.1 z.2.1
section MJA38
variable {E : EV} {d N q c t n e k u v i m o w cs c0 kq nt D me i0 td : Nat} {s s1 s' s0 : mjSt3} {j j0 j' : JS} {y z : PZ} {os : List Row} {l : List Ins} {al : Bool}
theorem oSt.C (x : oSt q s s') : oC q s s' := offG.mono x (fun a b h => by
  rcases h with h | h | h | h | h | h
  · exact Or.inl h
  · exact Or.inr (Or.inl ⟨h.1, by omega, by omega⟩)
  · exact Or.inr (Or.inr (Or.inl h))
  · exact Or.inr (Or.inr (Or.inr (Or.inl h)))
  · exact Or.inr (Or.inr (Or.inr (Or.inr (Or.inl h))))
  · exact Or.inr (Or.inr (Or.inr (Or.inr (Or.inr (Or.inl h)))))) (fun _ _ h => h)
theorem oU.S (x : oU q s s') : oSt q s s' := offG.mono x (fun a b h => by
  rcases h with h | h | h | h
  · exact Or.inl h
  · exact Or.inr (Or.inr (Or.inr (Or.inr (Or.inl h))))
  · exact Or.inr (Or.inr (Or.inr (Or.inr (Or.inr h))))
  · exact Or.inr (Or.inl ⟨h.1, by omega, by omega⟩)) (fun _ _ h => h.elim)
theorem oE.S (x : oE q s s') : oSt q s s' := x.U.S
theorem o58.S (x : o58 s s') : oSt q s s' := x.oe.S
theorem oSt.rr (x : oSt q s s') {h : Nat} (hh : ¬ (h = 58 ∨ h = 75 ∨ h = 77 ∨ h = 78 ∨ (q + 24 ≤ h ∧ h ≤ q + 27))) : s'.1 h = s.1 h := funext fun j => x.1 h j (by unfold c58; omega)
theorem oSt.ff (hq : isP q) (x : oSt q s s') {j : Nat} (hh : ¬ (11 ≤ j ∧ j ≤ 16)) : s'.1 75 j = s.1 75 j := x.1 75 j (by
  have hq : q = 2 ∨ q = 30 := hq
  unfold c58; omega)
theorem RT.oSt (R : RT E s) (hq : isP q) (x : oSt q s s') : RT E s' := ⟨by rw [x.ff hq (by omega)]; exact R.1, R.2⟩
theorem AG.oSt {l : List (Nat × Nat)} (A : AG s l) (hq : isP q) (x : oSt q s s') : AG s' l := by
  have hq' : q = 2 ∨ q = 30 := hq
  unfold AG; rw [x.rr (by omega)]; exact A
theorem PS.sub {a b : List Row} {l1 : List Ins} {j1 : JS} (P : PS E i0 cs (a ++ b) j) (h : jrun E a j = some (j1, l1)) : PS E (i0 + a.length) (cs + l1.length) b j1 := by
  intro a' b' j2 l2 e h2
  have := P (a ++ a') b' j2 (l1 ++ l2) (by rw [e, List.append_assoc]) (by rw [jrun_app, h]; dsimp only; rw [h2])
  rw [List.length_append, List.length_append] at this
  rw [Nat.add_assoc, this, Nat.add_assoc]
theorem PS.prf {a b : List Row} (P : PS E i0 cs (a ++ b) j) : PS E i0 cs a j := by
  intro a' b' j2 l2 e h2
  exact P a' (b' ++ b) j2 l2 (by rw [e, List.append_assoc]) h2
theorem JK.rf : JK j j := ⟨rfl, rfl, ⟨[], (List.append_nil _).symm, fun e h => by cases h⟩, rfl, rfl⟩
theorem JK.trn {a b c : JS} (h : JK a b) (g : JK b c) : JK a c := by
  obtain ⟨h1, h2, ⟨n1, h3, h4⟩, h5, h6⟩ := h
  obtain ⟨g1, g2, ⟨n2, g3, g4⟩, g5, g6⟩ := g
  refine ⟨g1.trans h1, g2.trans h2, ⟨n1 ++ n2, by rw [g3, h3, List.append_assoc], fun e he => ?_⟩, g5.trans h5, g6.trans h6⟩
  rcases List.mem_append.mp he with x | x
  · exact h4 e x
  · rw [g4 e x, h5]
theorem VD.jk (h : VD j) (g : JK j j') : VD j' := by
  intro e he
  obtain ⟨_, _, ⟨nw, g3, g4⟩, g5, _⟩ := g
  rw [g3] at he
  rw [g5]
  rcases List.mem_append.mp he with x | x
  · exact h e x
  · rw [g4 e x]; exact Nat.le_refl _
theorem jE_back : jst (jE j t al) j.1 ((jRS (jE j t al)).drop 1) = j := rfl
theorem CE.same (C : CE E N q s j cs) (h1 : j'.2.2.1 = j.2.2.1) (h2 : j'.2.2.2.1 = j.2.2.2.1) : CE E N q s j' cs := by
  obtain ⟨a, b, c, e, f⟩ := C
  exact ⟨a, b, c, by rw [h1, h2]; exact e, f⟩
/-- the E's value goes into one order of one instruction -/
theorem put_S {r : Row} {a b p : Int32} (C : CE E N q s0 j0 cs) (A : atC E N q s0 c0 cs j0 os s c t al l) (hr : jrow E r (jE j0 t al) = some (j', [(a, b, p)])) (h1 : j'.2.2.1 = j0.2.2.1) (h2 : j'.2.2.2.1 = j0.2.2.2.1) (hj : JK j0 j') (hl : l.length + c0 < c) (hcN : c ≤ N) (hn : cs + l.length < 3100) : ∃ s', mjF (d + 1) 1 [.ref (q + 24), .int a, .int b, .int p] (mjW0 s) = some (some (.int (nI (cs + l.length))), mjW0 s') ∧ atS E N q s0 c0 cs j0 (os ++ [r]) s' c j' (l ++ [(a, b, p)]) ∧ oE q s s' := by
  obtain ⟨A1, A2, A3, A4, A5, A6, A7, A8⟩ := A
  obtain ⟨s', b1, b2', b3, b4, b5, b6⟩ := put1 (d := d) (C.go A7 A4) hn a b p
  have sz : s'.1 (q + 24) 3 = nI (cs + (l ++ [(a, b, p)]).length) := by rw [b4, List.length_append, List.length_singleton, Nat.add_assoc]
  refine ⟨s', b1, ⟨?_, (C.go (A7.tr b2') sz).same h1 h2, ⟨by rw [b3]; exact A3.1, by rw [b3]; exact A3.2⟩, (A5.keep b6).app b5, CP.trn A6 (b6.mono (by omega)), oE.S (A7.tr b2'), ?_, hcN, hj⟩, b2'⟩
  · rw [jrun_app, A1]
    dsimp only
    rw [jrun_1, hr]
  · rw [List.length_append, List.length_singleton]; omega
/-- one order of one instruction, ahead of the rest -/
theorem gSm.one {r : Row} {os' : List Row} {a b p : Int32} {U : mjU} {c' : Nat} (C : CE E N q s j cs) (hr : jrow E r j = some (j, [(a, b, p)])) (x : oE q s s1) (hl : CL q s1 cs [(a, b, p)]) (hp : CP q cs s s1) (G : gSm E N q s1 (c + 1) (cs + 1) j os' U c' td) : gSm E N q s c cs j (r :: os') U c' td := by
  have jr : jrun E (r :: os') j = match jrun E os' j with
      | none => none
      | some (j2, c2) => some (j2, [(a, b, p)] ++ c2) := by
    show (match jrow E r j with
      | none => none
      | some (j1, c1) => match jrun E os' j1 with
        | none => none
        | some (j2, c2) => some (j2, c1 ++ c2)) = _
    rw [hr]
  rcases G with ⟨s', j', l, g1, ⟨g2, g3, g4, g5, g6, g7, g8, g9, g10⟩, g11⟩ | ⟨s', g1, g2, g3, g4⟩
  · refine Or.inl ⟨s', j', [(a, b, p)] ++ l, g1, ⟨?_, ?_, g4, ?_, CP.trn hp (g6.mono (by omega)), x.S.tr g7, ?_, g9, g10⟩, g11⟩
    · rw [jr, g2]
    · have : ([((a, b, p) : Ins)] ++ l).length = 1 + l.length := by rw [List.length_append, List.length_singleton]
      rw [this, ← Nat.add_assoc]; exact g3
    · exact (hl.keep (show CP q (cs + [((a, b, p) : Ins)].length) s1 s' from g6)).app g5
    · rw [List.length_append, List.length_singleton]; omega
  · refine Or.inr ⟨s', g1, ?_, g3, x.C.tr g4⟩
    rw [jr, g2]
theorem fit_int {T : TT} {L : List CD} : fitT T L t 0 = true ↔ t = 0 := by
  match t with
  | 0 => exact ⟨fun _ => rfl, fun _ => rfl⟩
  | 1 => exact ⟨fun h => (by cases h), fun h => (by cases h)⟩
  | k + 2 =>
    refine ⟨fun h => ?_, fun h => by omega⟩
    have : decide (k + 2 = 0) = true := h
    simp at this
theorem give_row (x a b : Int32) (nm : Int64) : jrow E (28, x, a, b, nm) (jE j t al) = if fitT E.1 E.2.1 t E.2.2.2.2.2.1 = true then some (j, [(9, 0, -1)]) else none := rfl
theorem say_row (x a b : Int32) (nm : Int64) : jrow E (24, x, a, b, nm) (jE j t al) = if t = 0 then some (j, [(8, 0, -1)]) else none := rfl
/-- word E ; : the E fits, then one instruction -/
theorem giveC {r : Row} {op : Int32} (ho : o ≤ 12) (hD : 96 ≤ D) (hc : c < N) (C : CE E N q s j cs) (f : fne s c) (hz : prV E.1 (N + 1) o (c + 1) kq = .inr z) (h59 : (E.1 z.1).1 = 59) (hK : KT E.2.2.2.1 kq z.2.2.1) (hA : AG s z.2.2.2.2) (hb : cs + (z.1 + 1 - c) ≤ 3091) (hw : vT E.2.1 w) (hr : ∀ t al, (fitT E.1 E.2.1 t w = true → jrow E r (jE j t al) = some (j, [(op, 0, -1)])) ∧ (¬ fitT E.1 E.2.1 t w = true → jrow E r (jE j t al) = none)) : ∃ s1, mjF (D + 1) 32 [.ref 75, .int (tyI w)] (mjW0 s) = some (none, mjW0 s1) ∧ s1.2.2 75 5 = q + 24 ∧ ∃ s2 v, mjF (D + 1) 1 [.ref (q + 24), .int op, .int 0, .int (-1)] (mjW0 s1) = some (some (.int v), mjW0 s2) ∧ gSm E N q s (c + 1) cs j (z.2.2.2.1 ++ [r]) (some (none, mjW0 s2)) (z.1 + 1) j.2.2.2.1 := by
  have zc := (prE_len (T := E.1) (M := N + 1) 100 0 o (c + 1) kq z (by omega) hz).1
  rcases x_32 ho hD hc C f hz h59 hK hA (by omega) hw with ⟨s1, t, al, l, g1, A, ft, gN⟩ | ⟨s1, g1, g2, g3, g4, g5⟩
  · have A8 := A.2.2.2.2.2.2.2
    have C1 := C.go A.2.2.2.2.2.2.1 A.2.2.2.1
    have A' : atC E N q s (c + 1) cs j z.2.2.2.1 s1 (z.1 + 1) t al l := ⟨A.1, A.2.1, A.2.2.1, A.2.2.2.1, A.2.2.2.2.1, A.2.2.2.2.2.1, A.2.2.2.2.2.2.1, by omega⟩
    obtain ⟨s2, w1, w2, w3⟩ := put_S (d := D) C A' ((hr t al).1 ft) rfl rfl JK.rf (by omega) gN (by omega)
    refine ⟨s1, g1, C1.1.2.2.2.2.2.2.2, s2, _, w1, Or.inl ⟨s2, j, _, rfl, w2, rfl⟩⟩
  · obtain ⟨s2, n', w1, w2, w3, w4, w5⟩ := n_emit (d := D) g4 op 0 (-1)
    refine ⟨s1, g1, g4.1.2.2.2.2.2.2.2, s2, _, w1, Or.inr ⟨s2, rfl, ?_, w3, g5.tr w4⟩⟩
    rw [jrun_app]
    rcases g3 with h | ⟨t, al, l, h⟩
    · rw [h]
    · rw [h]
      dsimp only
      rw [jrun_1, (hr t al).2 (g2 t al l h)]
end MJA38
