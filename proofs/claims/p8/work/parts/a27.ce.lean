/-! ===== the Coder and the orders of an E ===== -/
/-- what an E's code changes -/
def oE (q : Nat) : mjSt3 → mjSt3 → Prop := offG (fun h j => c58 h j ∨ (h = q + 24 ∧ j = 3) ∨ (q + 25 ≤ h ∧ h ≤ q + 27)) (fun _ _ => False)
/-- instructions that stand from cs on; those ahead of cs are as they were -/
def CL (q : Nat) (s : mjSt3) (cs : Nat) (l : List Ins) : Prop := ∀ (j : Nat) (x : Ins), l[j]? = some x → s.1 (q + 25) (cs + j) = x.1 ∧ s.1 (q + 26) (cs + j) = x.2.1 ∧ s.1 (q + 27) (cs + j) = x.2.2
def CP (q cs : Nat) (s s' : mjSt3) : Prop := ∀ j, j < cs → s'.1 (q + 25) j = s.1 (q + 25) j ∧ s'.1 (q + 26) j = s.1 (q + 26) j ∧ s'.1 (q + 27) j = s.1 (q + 27) j
/-- where the Coder stands: its CLASS, its VARIABLES, the length of the code -/
def CE (E : EV) (N q : Nat) (s : mjSt3) (j : JS) (cs : Nat) : Prop := CB E.1 N q E.2.1 E.2.2.1 s ∧ s.1 75 6 = oI E.2.2.2.2.1 ∧ (∀ c, E.2.2.2.2.1 = some c → c < E.2.1.length) ∧ VSr E.1 N E.2.1 j.2.2.1 j.2.2.2.1 s ∧ s.1 (q + 24) 3 = nI cs
/-- KINDS by their numbers; arguments by their tokens -/
def KT (kt : Int32 → Nat) (kq : Nat) (l : List Nat) : Prop := ∀ (j t : Nat), l[j]? = some t → kt (nI (kq + j)) = t
def AG (s : mjSt3) (l : List (Nat × Nat)) : Prop := ∀ e, e ∈ l → s.1 63 e.1 = nI e.2
/-- an E's TYPE on what waits -/
def jE (j : JS) (t : Nat) (al : Bool) : JS := ((t, al) :: j.1, j.2.1, j.2.2.1, j.2.2.2.1, j.2.2.2.2.1, j.2.2.2.2.2.1, j.2.2.2.2.2.2.1, t :: jRS j)
/-- behind the orders os, of tokens from c0 on: the Coder is at c -/
def atC (E : EV) (N q : Nat) (s0 : mjSt3) (c0 cs : Nat) (j0 : JS) (os : List Row) (s : mjSt3) (c : Nat) (t : Nat) (al : Bool) (l : List Ins) : Prop := jrun E os j0 = some (jE j0 t al, l) ∧ vTn E.2.1 t ∧ fne s c ∧ s.1 (q + 24) 3 = nI (cs + l.length) ∧ CL q s cs l ∧ CP q cs s0 s ∧ oE q s0 s ∧ l.length + c0 ≤ c
/-- bad -/
def bdC (E : EV) (N q : Nat) (s0 : mjSt3) (j0 : JS) (os : List Row) (s : mjSt3) : Prop := jrun E os j0 = none ∧ BC E.1 N q E.2.1 E.2.2.1 s ∧ oC q s0 s
section MJA27
variable {E : EV} {T : TT} {d N q c t n e k u v i m o w cs c0 : Nat} {s s' s0 : mjSt3} {L : List CD} {tr : Bool} {j j0 : JS}
theorem oE.C (x : oE q s s') : oC q s s' := offG.mono x (fun a b h => by
  rcases h with h | h | h
  · exact Or.inl h
  · exact Or.inr (Or.inr (Or.inr (Or.inr (Or.inl h))))
  · exact Or.inr (Or.inr (Or.inr (Or.inr (Or.inr (Or.inl h)))))) (fun _ _ h => h.elim)
theorem o58.oe (x : o58 s s') : oE q s s' := offG.mono x (fun _ _ h => Or.inl h) (fun _ _ h => h.elim)
theorem oE.r (x : oE q s s') {h : Nat} (hh : ¬ (h = 58 ∨ (q + 24 ≤ h ∧ h ≤ q + 27))) : s'.1 h = s.1 h := funext fun j => x.1 h j (by unfold c58; omega)
theorem oE.l (x : oE q s s') : s'.2 = s.2 := by
  have a : s'.2.1 = s.2.1 := funext fun h => funext fun j => x.2.1 h j (fun e => e)
  exact Prod.ext a x.2.2
theorem CE.pq (C : CE E N q s j cs) : isP q := C.1.pq
theorem VSr.oE {vs : List VE} {td : Nat} (V : VSr T N L vs td s) (hq : isP q) (x : oE q s s') : VSr T N L vs td s' := by
  have hq : q = 2 ∨ q = 30 := hq
  unfold VSr
  rw [x.r (by omega), x.r (by omega), x.r (by omega), x.l]
  exact V
theorem CE.go (C : CE E N q s j cs) (x : oE q s s') (h : s'.1 (q + 24) 3 = nI n) : CE E N q s' j n := by
  have hq : q = 2 ∨ q = 30 := C.pq
  exact ⟨C.1.oC x.C, by rw [x.r (by omega)]; exact C.2.1, C.2.2.1, C.2.2.2.1.oE C.pq x, h⟩
theorem CE.bad (C : CE E N q s j cs) (hcs : cs ≤ 3100) (x : o58 s s') (b : bdd N s') : BC E.1 N q E.2.1 E.2.2.1 s' := by
  have l16 : j.2.2.1.length ≤ 16 := by have := C.2.2.2.1.2.2.1; have := C.2.2.2.1.2.2.2.1; omega
  exact BC.of58 C.1 x b ⟨cs, hcs, C.2.2.2.2⟩ ⟨_, l16, C.2.2.2.1.1⟩
theorem AG.oE {l : List (Nat × Nat)} (A : AG s l) (hq : isP q) (x : oE q s s') : AG s' l := by
  have hq : q = 2 ∨ q = 30 := hq
  unfold AG; rw [x.r (by omega)]; exact A
theorem KT.app {kt : Int32 → Nat} {a b : List Nat} (h : KT kt k (a ++ b)) : KT kt k a ∧ KT kt (k + a.length) b := by
  refine ⟨fun j t hj => h j t ?_, fun j t hj => ?_⟩
  · have := (List.getElem?_eq_some_iff.mp hj).1
    rw [List.getElem?_append_left this]; exact hj
  · have := h (a.length + j) t (by rw [List.getElem?_append_right (by omega), show a.length + j - a.length = j by omega]; exact hj)
    rw [Nat.add_assoc]; exact this
theorem AG.app {a b : List (Nat × Nat)} (h : AG s (a ++ b)) : AG s a ∧ AG s b := ⟨fun e he => h e (List.mem_append_left _ he), fun e he => h e (List.mem_append_right _ he)⟩
theorem CL.nil : CL q s cs [] := fun j x h => by cases h
theorem CP.rf : CP q cs s s := fun _ _ => ⟨rfl, rfl, rfl⟩
theorem CP.trn {a b c : mjSt3} (h : CP q cs a b) (g : CP q cs b c) : CP q cs a c := fun j hj => ⟨(g j hj).1.trans (h j hj).1, (g j hj).2.1.trans (h j hj).2.1, (g j hj).2.2.trans (h j hj).2.2⟩
theorem CP.mono (h : CP q n s s') (hc : cs ≤ n) : CP q cs s s' := fun j hj => h j (by omega)
theorem CP.o58 (hq : isP q) (x : o58 s s') : CP q cs s s' := fun j _ => by
  have hq : q = 2 ∨ q = 30 := hq
  rw [x.r (by omega), x.r (by omega), x.r (by omega)]
  exact ⟨rfl, rfl, rfl⟩
theorem CL.keep {l : List Ins} (h : CL q s cs l) (g : CP q (cs + l.length) s s') : CL q s' cs l := fun j x hj => by
  have hl := (List.getElem?_eq_some_iff.mp hj).1
  obtain ⟨a, b, c⟩ := g (cs + j) (by omega)
  rw [a, b, c]; exact h j x hj
theorem CL.app {l l' : List Ins} (h : CL q s cs l) (g : CL q s (cs + l.length) l') : CL q s cs (l ++ l') := fun j x hj => by
  by_cases e : j < l.length
  · rw [List.getElem?_append_left e] at hj; exact h j x hj
  · rw [List.getElem?_append_right (by omega)] at hj
    have := g (j - l.length) x hj
    rw [show cs + l.length + (j - l.length) = cs + j by omega] at this
    exact this
/-- one instruction is put behind the code -/
theorem put1 (C : CE E N q s j cs) (hn : cs < 3100) (a b c' : Int32) : ∃ s', mjF (d + 1) 1 [.ref (q + 24), .int a, .int b, .int c'] (mjW0 s) = some (some (.int (nI cs)), mjW0 s') ∧ oE q s s' ∧ s'.1 58 = s.1 58 ∧ s'.1 (q + 24) 3 = nI (cs + 1) ∧ CL q s' cs [(a, b, c')] ∧ CP q cs s s' := by
  have hq : q = 2 ∨ q = 30 := C.pq
  obtain ⟨s', a1, a2, a3, a4, a5, a6, a7, a8, a9, b1, b2', b3⟩ := x_1 (d := d) C.pq C.2.2.2.2 hn a b c'
  refine ⟨s', a1, ⟨fun h k hk => ?_, fun h k _ => by rw [a8], by rw [a8]⟩, a3, a9, fun i x hx => ?_, fun i hi => ?_⟩
  · by_cases e1 : h = 58
    · rw [e1, a3]
    · by_cases e2 : h = 75
      · rw [e2, a4]
      · by_cases e3 : h = 77
        · rw [e3, a5]
        · by_cases e4 : h = 78
          · rw [e4, a6]
          · by_cases e5 : h = q + 23
            · rw [e5, a7]
            · exact a2.1 h k (by
                intro z
                apply hk
                rcases z with z | z | z | z | z | z | z
                · exact Or.inl z
                · omega
                · omega
                · omega
                · exact Or.inr (Or.inl z)
                · exact Or.inr (Or.inr z)
                · omega)
  · cases i with
    | zero =>
      cases hx
      rw [b1, b2', b3, Nat.add_zero, if_pos rfl, if_pos rfl, if_pos rfl]
      exact ⟨rfl, rfl, rfl⟩
    | succ i => cases hx
  · rw [b1, b2', b3, if_neg (by omega), if_neg (by omega), if_neg (by omega)]
    exact ⟨rfl, rfl, rfl⟩
/-- ... behind orders whose code stands: one order more -/
theorem atC.put {os : List Row} {l : List Ins} {al al' : Bool} {t' : Nat} {r : Row} (C : CE E N q s0 j0 cs) (A : atC E N q s0 c0 cs j0 os s c t al l) (a b p : Int32) (hr : jrow E r (jE j0 t al) = some (jE j0 t' al', [(a, b, p)])) (hv : vTn E.2.1 t') (hl : l.length + c0 < c) (hn : cs + l.length < 3100) : ∃ s', mjF (d + 1) 1 [.ref (q + 24), .int a, .int b, .int p] (mjW0 s) = some (some (.int (nI (cs + l.length))), mjW0 s') ∧ atC E N q s0 c0 cs j0 (os ++ [r]) s' c t' al' (l ++ [(a, b, p)]) ∧ oE q s s' := by
  obtain ⟨A1, A2, A3, A4, A5, A6, A7, A8⟩ := A
  obtain ⟨s', b1, b2', b3, b4, b5, b6⟩ := put1 (d := d) (C.go A7 A4) hn a b p
  refine ⟨s', b1, ⟨?_, hv, ⟨by rw [b3]; exact A3.1, by rw [b3]; exact A3.2⟩, ?_, (A5.keep b6).app b5, CP.trn A6 (b6.mono (by omega)), A7.tr b2', ?_⟩, b2'⟩
  · rw [jrun_app, A1]
    dsimp only
    rw [jrun_1, hr]
  · rw [b4, List.length_append, List.length_singleton, Nat.add_assoc]
  · rw [List.length_append, List.length_singleton]; omega
theorem x_20 {vs : List VE} {td : Nat} {e : VE} (V : VSr T N L vs td s) (h : vs[i]? = some e) : mjF (d + 1) 20 [.ref 75, .int (nI i)] (mjW0 s) = some (some (.int (tyI e.2.1)), mjW0 s) ∧ mjF (d + 1) 19 [.ref 75, .int (nI i)] (mjW0 s) = some (some (.int (nI e.2.2.1)), mjW0 s) := by
  have hl := (List.getElem?_eq_some_iff.mp h).1
  have l16 : vs.length ≤ 16 := by have := V.2.2.1; have := V.2.2.2.1; omega
  obtain ⟨a, b, _⟩ := V.2.2.2.2 i e h
  constructor
  · rw [e_20]
    unfold f_20 b_20_0
    rw [if_neg (nI_m1 (by omega)), xg_75_9, wa_77 (by omega), a]
  · rw [e_19]
    unfold f_19 b_19_0
    rw [if_neg (nI_m1 (by omega)), xg_75_10, wa_78 (by omega), b]
theorem x_20n : mjF (d + 1) 20 [.ref 75, .int (-1)] (mjW0 s) = some (some (.int (-1)), mjW0 s) ∧ mjF (d + 1) 19 [.ref 75, .int (-1)] (mjW0 s) = some (some (.int 0), mjW0 s) := by
  constructor
  · rw [e_20]
    unfold f_20 b_20_0
    rw [if_pos rfl]
  · rw [e_19]
    unfold f_19 b_19_0
    rw [if_pos rfl]
/-- askNumber: a TYPE that is no int is refused -/
theorem x_27 (C : CB T N q L tr s) (g : GB N s) (ht : t ≤ N) {ty : Nat} (hv : ty < 524290) : ∃ s', mjF (d + 2) 27 [.ref 75, .int (tyI ty), .int (nI t)] (mjW0 s) = some (none, mjW0 s') ∧ o58 s s' ∧ (ty = 0 → s' = s) ∧ (¬ ty = 0 → bdd N s') := by
  have pre : mjF (d + 2) 27 [.ref 75, .int (tyI ty), .int (nI t)] (mjW0 s) = _ := e_27 (d := d + 1)
  unfold f_27 b_27_0 at pre
  have e : tyI ty = -1 ↔ ty = 0 := tyI_eq (u := 0) hv (by decide)
  by_cases h : ty = 0
  · rw [if_pos (e.mpr h)] at pre
    exact ⟨s, pre, offG.rf, fun _ => rfl, fun x => absurd h x⟩
  · rw [if_neg (fun x => h (e.mp x)), xg_75_0, xV_58] at pre
    obtain ⟨z, z1, z2, z3⟩ := j_atG (d := d) (k := 7) C.1.1.1 g ht (by decide)
    rw [z1, bN_s] at pre
    exact ⟨z, pre, z3, fun x => absurd x h, fun _ => z2⟩
theorem x_30 {k : Int32} (d : Nat) (hp : mjH) : mjF (d + 1) 30 [.int k] hp = some (some (.int (if k = 37 then 21 else if k = 42 then 19 else if k = 43 then 17 else if k = 45 then 18 else if k = 47 then 20 else if k = 60 then 22 else if k = 200 then 23 else 24)), hp) := by
  rw [e_30]
  unfold f_30 b_30_0
  repeat' split
  all_goals rfl
end MJA27
