/-! ===== the world as a template and a state ===== -/
abbrev mjSt3 : Type := (Nat → Nat → Int32) × (Nat → Nat → Int64) × (Nat → Nat → Nat)
abbrev mjTp : Type := (Nat × Nat × Bool) ⊕ (Nat × List (Nat ⊕ Value))
def tv (s : mjSt3) (h j : Nat) (x : Nat ⊕ Value) : Value := match x with
  | .inl 0 => .int (s.1 h j)
  | .inl 1 => .long (s.2.1 h j)
  | .inl _ => .ref (s.2.2 h j)
  | .inr v => v
def tc (s : mjSt3) (h : Nat) (x : mjTp) : va_E := match x with
  | .inl (t, n, false) => .inl (t, n, .inl (s.1 h))
  | .inl (t, n, true) => .inl (t, n, .inr (.inl (s.2.1 h)))
  | .inr (ci, fs) => .inr (ci, fs.mapIdx (tv s h))
def mjHT (T : List mjTp) (s : mjSt3) : mjH := T.mapIdx (tc s)
theorem mjHT_get (T : List mjTp) (s : mjSt3) (h : Nat) : (mjHT T s)[h]? = (T[h]?).map (tc s h) := by
  unfold mjHT
  rw [List.getElem?_mapIdx]
/-- a row of ints, of longs, of references put in the place of another -/
def uI (s : mjSt3) (h : Nat) (f : Nat → Int32) : mjSt3 := (fun h' => if h' = h then f else s.1 h', s.2.1, s.2.2)
def uL (s : mjSt3) (h : Nat) (f : Nat → Int64) : mjSt3 := (s.1, fun h' => if h' = h then f else s.2.1 h', s.2.2)
def uR (s : mjSt3) (h : Nat) (f : Nat → Nat) : mjSt3 := (s.1, s.2.1, fun h' => if h' = h then f else s.2.2 h')
def updR (f : Nat → Nat) (j v : Nat) : Nat → Nat := fun i => if i = j then v else f i
theorem uI_same (s : mjSt3) (h : Nat) (f : Nat → Int32) : (uI s h f).1 h = f := if_pos rfl
theorem uI_ne (s : mjSt3) (h h' : Nat) (f : Nat → Int32) (e : ¬ h' = h) : (uI s h f).1 h' = s.1 h' := if_neg e
theorem uI_l (s : mjSt3) (h : Nat) (f : Nat → Int32) : (uI s h f).2 = s.2 := rfl
theorem uL_same (s : mjSt3) (h : Nat) (f : Nat → Int64) : (uL s h f).2.1 h = f := if_pos rfl
theorem uL_ne (s : mjSt3) (h h' : Nat) (f : Nat → Int64) (e : ¬ h' = h) : (uL s h f).2.1 h' = s.2.1 h' := if_neg e
theorem uL_i (s : mjSt3) (h : Nat) (f : Nat → Int64) : (uL s h f).1 = s.1 := rfl
theorem uL_r (s : mjSt3) (h : Nat) (f : Nat → Int64) : (uL s h f).2.2 = s.2.2 := rfl
theorem uR_i (s : mjSt3) (h : Nat) (f : Nat → Nat) : (uR s h f).1 = s.1 := rfl
theorem uR_l (s : mjSt3) (h : Nat) (f : Nat → Nat) : (uR s h f).2.1 = s.2.1 := rfl
theorem uR_same (s : mjSt3) (h : Nat) (f : Nat → Nat) : (uR s h f).2.2 h = f := if_pos rfl
theorem uR_ne (s : mjSt3) (h h' : Nat) (f : Nat → Nat) (e : ¬ h' = h) : (uR s h f).2.2 h' = s.2.2 h' := if_neg e
theorem mjHT_set {T : List mjTp} {s s' : mjSt3} {h : Nat} {x : mjTp} (hT : T[h]? = some x) (hs : ∀ h', ¬ h' = h → s'.1 h' = s.1 h' ∧ s'.2.1 h' = s.2.1 h' ∧ s'.2.2 h' = s.2.2 h') : (mjHT T s).set h (tc s' h x) = mjHT T s' := by
  apply List.ext_getElem?
  intro i
  rw [mjHT_get]
  by_cases e : i = h
  · subst e
    have hl : i < (mjHT T s).length := by
      unfold mjHT
      rw [List.length_mapIdx]
      exact (List.getElem?_eq_some_iff.mp hT).1
    rw [List.getElem?_set_self hl, hT]
    rfl
  · rw [List.getElem?_set_ne (Ne.symm e), mjHT_get]
    cases T[i]? with
    | none => rfl
    | some y =>
      obtain ⟨e1, e2, e3⟩ := hs i e
      simp only [Option.map_some, Option.some.injEq]
      have e4 : ∀ j z, tv s' i j z = tv s i j z := fun j z => by
        unfold tv
        split <;> simp only [e1, e2, e3]
      match y with
      | .inl (t, n, false) => simp only [tc, e1]
      | .inl (t, n, true) => simp only [tc, e2]
      | .inr (ci, fs) =>
        simp only [tc]
        congr 2
        apply List.ext_getElem?
        intro j
        rw [List.getElem?_mapIdx, List.getElem?_mapIdx]
        cases fs[j]? with
        | none => rfl
        | some z => simp only [Option.map_some, e4]
section MJW
variable {T : List mjTp} {s : mjSt3} {h ci j n t : Nat} {fs : List (Nat ⊕ Value)}
theorem tg_I {k : Int32 → mjU} (hT : T[h]? = some (.inr (ci, fs))) (hj : fs[j]? = some (.inl 0)) : gI (mjHT T s) h ci j k = k (s.1 h j) := by
  unfold gI
  simp only [mjHT_get, hT, Option.map_some, tc, beq_self_eq_true, List.getElem?_mapIdx, hj, tv]
theorem tg_L {k : Int64 → mjU} (hT : T[h]? = some (.inr (ci, fs))) (hj : fs[j]? = some (.inl 1)) : gL (mjHT T s) h ci j k = k (s.2.1 h j) := by
  unfold gL
  simp only [mjHT_get, hT, Option.map_some, tc, beq_self_eq_true, List.getElem?_mapIdx, hj, tv]
theorem tg_D {k : Nat → mjU} (hT : T[h]? = some (.inr (ci, fs))) (hj : fs[j]? = some (.inl 2)) : gR (mjHT T s) h ci j k = k (s.2.2 h j) := by
  unfold gR
  simp only [mjHT_get, hT, Option.map_some, tc, beq_self_eq_true, List.getElem?_mapIdx, hj, tv]
theorem tg_R {k : Nat → mjU} {v : Nat} (hT : T[h]? = some (.inr (ci, fs))) (hj : fs[j]? = some (.inr (.ref v))) : gR (mjHT T s) h ci j k = k v := by
  unfold gR
  simp only [mjHT_get, hT, Option.map_some, tc, beq_self_eq_true, List.getElem?_mapIdx, hj, tv]
theorem tr_V {u : mjU} (hT : T[h]? = some (.inr (ci, fs))) : rV (mjHT T s) h ci u = u := by
  unfold rV
  simp only [mjHT_get, hT, Option.map_some, tc, beq_self_eq_true]
theorem mapIdx_upd {fs : List (Nat ⊕ Value)} {g g' : Nat → (Nat ⊕ Value) → Value} {j : Nat} {v : Value} {x : Nat ⊕ Value} (hj : fs[j]? = some x) (hv : g' j x = v) (hn : ∀ i, ¬ i = j → ∀ y, fs[i]? = some y → g' i y = g i y) : (fs.mapIdx g).set j v = fs.mapIdx g' := by
  apply List.ext_getElem?
  intro i
  rw [List.getElem?_mapIdx]
  by_cases e : i = j
  · subst e
    have hl : i < (fs.mapIdx g).length := by
      rw [List.length_mapIdx]
      exact (List.getElem?_eq_some_iff.mp hj).1
    rw [List.getElem?_set_self hl, hj, Option.map_some, hv]
  · rw [List.getElem?_set_ne (Ne.symm e), List.getElem?_mapIdx]
    cases hy : fs[i]? with
    | none => rfl
    | some y => rw [Option.map_some, Option.map_some, hn i e y hy]
theorem tp_I {v : Int32} {k : mjH → mjU} (hT : T[h]? = some (.inr (ci, fs))) (hj : fs[j]? = some (.inl 0)) : pI (mjHT T s) h ci j v k = k (mjHT T (uI s h (upd (s.1 h) j v))) := by
  have hl : j < fs.length := (List.getElem?_eq_some_iff.mp hj).1
  unfold pI
  simp only [mjHT_get, hT, Option.map_some, tc, beq_self_eq_true, List.length_mapIdx, hl, decide_true, Bool.and_self]
  congr 1
  rw [← mjHT_set (s := s) (s' := uI s h (upd (s.1 h) j v)) hT (fun h' e => ⟨by simp [uI, e], by simp [uI, e], by simp [uI, e]⟩)]
  congr 1
  simp only [tc]
  congr 2
  refine mapIdx_upd hj (by simp [tv, uI, upd]) (fun i e y _ => ?_)
  unfold tv
  split <;> simp [uI, upd, e]
theorem tp_L {v : Int64} {k : mjH → mjU} (hT : T[h]? = some (.inr (ci, fs))) (hj : fs[j]? = some (.inl 1)) : pL (mjHT T s) h ci j v k = k (mjHT T (uL s h (vp_updL (s.2.1 h) j v))) := by
  have hl : j < fs.length := (List.getElem?_eq_some_iff.mp hj).1
  unfold pL
  simp only [mjHT_get, hT, Option.map_some, tc, beq_self_eq_true, List.length_mapIdx, hl, decide_true, Bool.and_self]
  congr 1
  rw [← mjHT_set (s := s) (s' := uL s h (vp_updL (s.2.1 h) j v)) hT (fun h' e => ⟨by simp [uL, e], by simp [uL, e], by simp [uL, e]⟩)]
  congr 1
  simp only [tc]
  congr 2
  refine mapIdx_upd hj (by simp [tv, uL, vp_updL]) (fun i e y _ => ?_)
  unfold tv
  split <;> simp [uL, vp_updL, e]
theorem tp_D {v : Nat} {k : mjH → mjU} (hT : T[h]? = some (.inr (ci, fs))) (hj : fs[j]? = some (.inl 2)) : pR (mjHT T s) h ci j v k = k (mjHT T (uR s h (updR (s.2.2 h) j v))) := by
  have hl : j < fs.length := (List.getElem?_eq_some_iff.mp hj).1
  unfold pR
  simp only [mjHT_get, hT, Option.map_some, tc, beq_self_eq_true, List.length_mapIdx, hl, decide_true, Bool.and_self]
  congr 1
  rw [← mjHT_set (s := s) (s' := uR s h (updR (s.2.2 h) j v)) hT (fun h' e => ⟨by simp [uR, e], by simp [uR, e], by simp [uR, e]⟩)]
  congr 1
  simp only [tc]
  congr 2
  refine mapIdx_upd hj (by simp [tv, uR, updR]) (fun i e y _ => ?_)
  unfold tv
  split <;> simp [uR, updR, e]
theorem tp_Z {v : Int32} {k : mjH → mjU} (hT : T[h]? = some (.inr (ci, fs))) (hj : fs[j]? = some (.inl 0)) (hv : (v == 0 || v == 1) = true) : pZ (mjHT T s) h ci j v k = k (mjHT T (uI s h (upd (s.1 h) j v))) := by
  have e := tp_I (s := s) (v := v) (k := k) hT hj
  rw [← e]
  unfold pZ pI
  simp only [hv, Bool.and_true]
theorem ta_I {i : Int32} {k : Int32 → mjU} (hT : T[h]? = some (.inl (0, n, false))) : aI (mjHT T s) h i k = if mj_in i n = true then k (s.1 h i.toNatClampNeg) else none := by
  unfold aI
  simp only [mjHT_get, hT, Option.map_some, tc, beq_self_eq_true, Bool.true_and]
  cases mj_in i n <;> rfl
theorem ta_L {i : Int32} {k : Int64 → mjU} (hT : T[h]? = some (.inl (1, n, true))) : aL (mjHT T s) h i k = if mj_in i n = true then k (s.2.1 h i.toNatClampNeg) else none := by
  unfold aL
  simp only [mjHT_get, hT, Option.map_some, tc, beq_self_eq_true, Bool.true_and]
  cases mj_in i n <;> rfl
theorem ta_B {i : Int32} {k : Int32 → mjU} (hT : T[h]? = some (.inl (t, n, false))) (ht : (t == 2 || t == 3) = true) : aB (mjHT T s) h i k = if mj_in i n = true then k (s.1 h i.toNatClampNeg) else none := by
  unfold aB
  simp only [mjHT_get, hT, Option.map_some, tc, ht, Bool.true_and]
  cases mj_in i n <;> rfl
theorem ta_N {b : Bool} {k : Int32 → mjU} (hT : T[h]? = some (.inl (t, n, b))) (ht : t < 4) : aN (mjHT T s) h k = k (Int32.ofNat n) := by
  unfold aN
  cases b <;> simp only [mjHT_get, hT, Option.map_some, tc, ht, decide_true]
theorem ts_I {i x : Int32} {k : mjH → mjU} (hT : T[h]? = some (.inl (0, n, false))) : sI (mjHT T s) h i x k = if mj_in i n = true then k (mjHT T (uI s h (upd (s.1 h) i.toNatClampNeg x))) else none := by
  unfold sI
  simp only [mjHT_get, hT, Option.map_some, tc, beq_self_eq_true, Bool.true_and]
  cases mj_in i n with
  | false => rfl
  | true =>
    rw [if_pos rfl]
    dsimp only
    congr 1
    rw [← mjHT_set (s := s) (s' := uI s h (upd (s.1 h) i.toNatClampNeg x)) hT (fun h' e => ⟨by simp [uI, e], by simp [uI, e], by simp [uI, e]⟩)]
    simp only [tc, uI_same]
theorem ts_L {i : Int32} {x : Int64} {k : mjH → mjU} (hT : T[h]? = some (.inl (1, n, true))) : sL (mjHT T s) h i x k = if mj_in i n = true then k (mjHT T (uL s h (vp_updL (s.2.1 h) i.toNatClampNeg x))) else none := by
  unfold sL
  simp only [mjHT_get, hT, Option.map_some, tc, beq_self_eq_true, Bool.true_and]
  cases mj_in i n with
  | false => rfl
  | true =>
    rw [if_pos rfl]
    dsimp only
    congr 1
    rw [← mjHT_set (s := s) (s' := uL s h (vp_updL (s.2.1 h) i.toNatClampNeg x)) hT (fun h' e => ⟨by simp [uL, e], by simp [uL, e], by simp [uL, e]⟩)]
    simp only [tc, uL_same]
theorem ts_b {i x : Int32} {k : mjH → mjU} (hT : T[h]? = some (.inl (2, n, false))) : sB (mjHT T s) h i x k = if mj_in i n = true then k (mjHT T (uI s h (upd (s.1 h) i.toNatClampNeg (vp_nar .byte x)))) else none := by
  unfold sB
  simp only [mjHT_get, hT, Option.map_some, tc, beq_self_eq_true, Bool.true_and]
  cases mj_in i n with
  | false => rfl
  | true =>
    rw [if_pos rfl]
    dsimp only
    congr 1
    rw [← mjHT_set (s := s) (s' := uI s h (upd (s.1 h) i.toNatClampNeg (vp_nar .byte x))) hT (fun h' e => ⟨by simp [uI, e], by simp [uI, e], by simp [uI, e]⟩)]
    simp only [tc, uI_same]
theorem ts_z {i x : Int32} {k : mjH → mjU} (hT : T[h]? = some (.inl (3, n, false))) : sB (mjHT T s) h i x k = if mj_in i n = true then k (mjHT T (uI s h (upd (s.1 h) i.toNatClampNeg (vp_nar .boolean x)))) else none := by
  unfold sB
  simp only [mjHT_get, hT, Option.map_some, tc, beq_self_eq_true, Bool.true_and]
  cases mj_in i n with
  | false => rfl
  | true =>
    rw [if_pos rfl]
    simp only [show (3 == 2) = false from rfl, Bool.false_and]
    congr 1
    rw [← mjHT_set (s := s) (s' := uI s h (upd (s.1 h) i.toNatClampNeg (vp_nar .boolean x))) hT (fun h' e => ⟨by simp [uI, e], by simp [uI, e], by simp [uI, e]⟩)]
    simp only [tc, uI_same]
end MJW
/-! ===== the fresh pair's world is one ===== -/
def okV (v : Value) (x : Nat ⊕ Value) : Bool := match v, x with
  | .int _, .inl 0 => true
  | .long _, .inl 1 => true
  | .ref _, .inl 2 => true
  | v, .inr u => decide (v = u)
  | _, _ => false
def okF : List Value → List (Nat ⊕ Value) → Bool
  | [], [] => true
  | v :: fs, x :: ts => okV v x && okF fs ts
  | _, _ => false
def okC (a : mjSp) (b : mjTp) : Bool := match a, b with
  | .inl a, .inl b => decide (a = b)
  | .inr (c, fs), .inr (c2, ts) => decide (c = c2) && okF fs ts
  | _, _ => false
def okL : List mjSp → List mjTp → Bool
  | [], [] => true
  | a :: l, b :: k => okC a b && okL l k
  | _, _ => false
theorem okL_at : ∀ (l : List mjSp) (k : List mjTp) (i : Nat), okL l k = true → (l[i]? = none ∧ k[i]? = none) ∨ ∃ a b, l[i]? = some a ∧ k[i]? = some b ∧ okC a b = true
  | [], [], i, _ => Or.inl ⟨rfl, rfl⟩
  | a :: l, b :: k, 0, h => Or.inr ⟨a, b, rfl, rfl, (by simp only [okL, Bool.and_eq_true] at h; exact h.1)⟩
  | a :: l, b :: k, i + 1, h => okL_at l k i (by simp only [okL, Bool.and_eq_true] at h; exact h.2)
  | [], _ :: _, _, h => by cases h
  | _ :: _, [], _, h => by cases h
theorem okF_at : ∀ (l : List Value) (k : List (Nat ⊕ Value)) (i : Nat), okF l k = true → (l[i]? = none ∧ k[i]? = none) ∨ ∃ a b, l[i]? = some a ∧ k[i]? = some b ∧ okV a b = true
  | [], [], i, _ => Or.inl ⟨rfl, rfl⟩
  | a :: l, b :: k, 0, h => Or.inr ⟨a, b, rfl, rfl, (by simp only [okF, Bool.and_eq_true] at h; exact h.1)⟩
  | a :: l, b :: k, i + 1, h => okF_at l k i (by simp only [okF, Bool.and_eq_true] at h; exact h.2)
  | [], _ :: _, _, h => by cases h
  | _ :: _, [], _, h => by cases h
def st3 (S : List mjSp) (hp : mjH) : mjSt3 :=
  (fun h => match S[h]? with
    | some (.inr (_, fs)) => fun j => match fs[j]? with
      | some (.int v) => v
      | _ => 0
    | _ => mjGi hp h,
   fun h => match S[h]? with
    | some (.inr (_, fs)) => fun j => match fs[j]? with
      | some (.long v) => v
      | _ => 0
    | _ => mjGl hp h,
   fun h j => match S[h]? with
    | some (.inr (_, fs)) => match fs[j]? with
      | some (.ref v) => v
      | _ => 0
    | _ => 0)
theorem mjFz_HT {S : List mjSp} {T : List mjTp} (h : okL S T = true) (hp : mjH) : mjFz S hp = mjHT T (st3 S hp) := by
  apply List.ext_getElem?
  intro i
  unfold mjFz mjBd
  rw [mjB1_get, mjHT_get, Nat.zero_add]
  rcases okL_at S T i h with ⟨e1, e2⟩ | ⟨a, b, e1, e2, e3⟩
  · rw [e1, e2]; rfl
  · rw [e1, e2]
    simp only [Option.map_some, Option.some.injEq]
    match a, b, e1, e3 with
    | .inl (t, n, false), .inl b, e1, e3 =>
      simp only [okC, decide_eq_true_eq] at e3
      subst e3
      simp only [mjB0, tc, st3, e1]
    | .inl (t, n, true), .inl b, e1, e3 =>
      simp only [okC, decide_eq_true_eq] at e3
      subst e3
      simp only [mjB0, tc, st3, e1]
    | .inr (c, fs), .inr (c2, ts), e1, e3 =>
      simp only [okC, Bool.and_eq_true, decide_eq_true_eq] at e3
      obtain ⟨rfl, e3⟩ := e3
      simp only [mjB0, tc]
      congr 2
      apply List.ext_getElem?
      intro j
      rw [List.getElem?_mapIdx]
      rcases okF_at fs ts j e3 with ⟨g1, g2⟩ | ⟨v, x, g1, g2, g3⟩
      · rw [g1, g2]; rfl
      · rw [g1, g2]
        simp only [Option.map_some, Option.some.injEq]
        unfold okV at g3
        split at g3
        · simp only [tv, st3, e1, g1]
        · simp only [tv, st3, e1, g1]
        · simp only [tv, st3, e1, g1]
        · simp only [decide_eq_true_eq] at g3
          exact g3
        · cases g3
    | .inl _, .inr _, _, e3 => cases e3
    | .inr _, .inl _, _, e3 => cases e3
def T_r0 : List mjTp := [.inr (11, [.inr (.ref 1), .inl 0, .inr (.ref 58), .inr (.ref 64), .inr (.ref 71), .inr (.ref 75), .inl 2, .inl 2, .inl 0, .inl 0, .inl 0, .inr (.ref 79), .inr (.ref 82), .inr (.ref 91)]), .inl (2, 3000, false), .inr (7, [.inl 0, .inr (.ref 3), .inr (.ref 4), .inr (.ref 5), .inr (.ref 6), .inr (.ref 7), .inr (.ref 8), .inr (.ref 9), .inr (.ref 10), .inr (.ref 11), .inr (.ref 12), .inr (.ref 13), .inr (.ref 14), .inr (.ref 15), .inr (.ref 16), .inr (.ref 26)]), .inl (0, 16, false), .inl (0, 16, false), .inl (0, 16, false), .inl (0, 128, false), .inl (0, 16, false), .inl (0, 16, false), .inl (0, 16, false), .inl (0, 16, false), .inl (0, 16, false), .inl (0, 16, false), .inl (0, 112, false), .inl (0, 256, false), .inl (1, 96, true)]
def T_r1 : List mjTp := [.inr (6, [.inl 0, .inr (.ref 17), .inr (.ref 18), .inr (.ref 19), .inr (.ref 20), .inr (.ref 21), .inr (.ref 22), .inr (.ref 23), .inr (.ref 24), .inr (.ref 25)]), .inl (1, 385, true), .inl (0, 385, false), .inl (0, 385, false), .inl (3, 385, false), .inl (0, 385, false), .inl (0, 385, false), .inl (0, 2310, false), .inl (0, 385, false), .inl (0, 385, false), .inr (0, [.inr (.ref 27), .inr (.ref 28), .inr (.ref 29), .inl 0]), .inl (0, 3100, false), .inl (0, 3100, false), .inl (0, 3100, false), .inr (7, [.inl 0, .inr (.ref 31), .inr (.ref 32), .inr (.ref 33), .inr (.ref 34), .inr (.ref 35), .inr (.ref 36), .inr (.ref 37), .inr (.ref 38), .inr (.ref 39), .inr (.ref 40), .inr (.ref 41), .inr (.ref 42), .inr (.ref 43), .inr (.ref 44), .inr (.ref 54)]), .inl (0, 16, false)]
def T_r2 : List mjTp := [.inl (0, 16, false), .inl (0, 16, false), .inl (0, 128, false), .inl (0, 16, false), .inl (0, 16, false), .inl (0, 16, false), .inl (0, 16, false), .inl (0, 16, false), .inl (0, 16, false), .inl (0, 112, false), .inl (0, 256, false), .inl (1, 96, true), .inr (6, [.inl 0, .inr (.ref 45), .inr (.ref 46), .inr (.ref 47), .inr (.ref 48), .inr (.ref 49), .inr (.ref 50), .inr (.ref 51), .inr (.ref 52), .inr (.ref 53)]), .inl (1, 385, true), .inl (0, 385, false), .inl (0, 385, false)]
def T_r3 : List mjTp := [.inl (3, 385, false), .inl (0, 385, false), .inl (0, 385, false), .inl (0, 2310, false), .inl (0, 385, false), .inl (0, 385, false), .inr (0, [.inr (.ref 55), .inr (.ref 56), .inr (.ref 57), .inl 0]), .inl (0, 3100, false), .inl (0, 3100, false), .inl (0, 3100, false), .inr (9, [.inr (.ref 59), .inr (.ref 60), .inr (.ref 61), .inr (.ref 62), .inr (.ref 63), .inl 0, .inl 0, .inl 0, .inl 0]), .inl (1, 16, true), .inl (0, 3001, false), .inl (0, 3001, false), .inl (1, 3001, true), .inl (0, 3001, false)]
def T_r4 : List mjTp := [.inr (8, [.inr (.ref 58), .inl 2, .inl 2, .inr (.ref 65), .inr (.ref 66), .inr (.ref 67), .inr (.ref 68), .inr (.ref 69), .inr (.ref 70), .inl 0, .inl 0]), .inl (0, 16, false), .inl (0, 16, false), .inl (0, 16, false), .inl (0, 385, false), .inl (0, 385, false), .inl (0, 385, false), .inr (4, [.inr (.ref 58), .inr (.ref 64), .inl 2, .inl 2, .inl 0, .inr (.ref 72), .inr (.ref 73), .inr (.ref 74)]), .inl (1, 16, true), .inl (1, 80, true), .inl (1, 6, true), .inr (1, [.inr (.ref 58), .inr (.ref 64), .inr (.ref 71), .inl 2, .inl 2, .inl 2, .inl 0, .inl 0, .inr (.ref 76), .inr (.ref 77), .inr (.ref 78), .inl 0, .inl 0, .inl 0, .inl 0, .inl 0, .inl 0]), .inl (1, 16, true), .inl (0, 16, false), .inl (0, 16, false), .inr (3, [.inr (.ref 80), .inr (.ref 81), .inl 0, .inl 0, .inl 0])]
def T_r5 : List mjTp := [.inl (0, 4000, false), .inl (0, 1335, false), .inr (5, [.inr (.ref 79), .inr (.ref 83), .inl 2, .inl 2, .inl 0, .inr (.ref 89), .inl 0, .inl 0, .inl 0, .inl 0, .inl 0, .inl 0, .inl 0, .inl 0, .inr (.ref 90)]), .inr (2, [.inl 0, .inl 0, .inr (.ref 84), .inr (.ref 85), .inr (.ref 86), .inr (.ref 87), .inr (.ref 88)]), .inl (0, 40, false), .inl (0, 40, false), .inl (0, 40, false), .inl (0, 40, false), .inl (0, 640, false), .inl (0, 5120, false), .inl (0, 200, false), .inr (10, [.inr (.ref 79), .inl 2, .inr (.ref 92), .inl 0, .inr (.ref 93), .inl 0, .inr (.ref 94), .inr (.ref 95), .inr (.ref 96), .inl 0]), .inl (0, 1335, false), .inl (0, 1335, false), .inl (0, 1335, false), .inl (0, 1335, false)]
def T_r6 : List mjTp := [.inl (0, 1335, false), .inr (12, [.inr (.ref 98), .inl 0, .inl 0, .inl 0, .inl 0, .inl 0, .inl 0, .inl 1, .inr (.ref 99), .inl 0, .inl 0, .inr (.ref 100), .inr (.ref 101), .inr (.ref 102), .inr (.ref 103), .inr (.ref 104), .inr (.ref 105), .inr (.ref 106), .inr (.ref 107), .inr (.ref 108), .inr (.ref 109), .inr (.ref 110), .inr (.ref 111), .inr (.ref 112), .inr (.ref 113), .inr (.ref 114), .inr (.ref 115), .inr (.ref 116), .inr (.ref 117), .inr (.ref 118), .inr (.ref 119), .inr (.ref 120), .inr (.ref 121), .inr (.ref 122), .inr (.ref 123), .inr (.ref 124), .inr (.ref 125), .inr (.ref 126), .inr (.ref 127), .inr (.ref 128), .inr (.ref 129), .inr (.ref 130), .inr (.ref 131), .inr (.ref 132), .inr (.ref 133), .inr (.ref 134), .inr (.ref 135), .inr (.ref 136), .inr (.ref 137), .inr (.ref 138), .inr (.ref 139), .inr (.ref 140), .inr (.ref 141), .inr (.ref 142), .inr (.ref 143), .inr (.ref 144), .inr (.ref 145), .inr (.ref 146), .inr (.ref 147), .inl 0, .inl 0, .inl 0, .inl 0, .inl 0, .inl 0, .inl 0, .inl 0, .inl 0, .inr (.ref 148), .inr (.ref 149), .inr (.ref 150), .inl 0, .inr (.ref 151), .inr (.ref 152), .inr (.ref 153), .inr (.ref 154), .inl 0, .inl 0, .inl 0, .inr (.ref 155), .inr (.ref 156), .inr (.ref 157), .inl 0, .inr (.ref 158), .inr (.ref 159), .inr (.ref 160), .inr (.ref 161), .inl 0, .inl 0, .inr (.ref 162), .inr (.ref 163), .inr (.ref 164), .inl 0, .inr (.ref 165), .inr (.ref 166), .inl 0, .inl 0, .inl 0, .inl 0, .inl 0, .inl 0, .inl 0, .inl 0, .inl 0, .inl 0, .inl 0, .inl 0, .inr (.ref 167), .inr (.ref 168), .inr (.ref 169), .inr (.ref 170), .inr (.ref 171), .inr (.ref 172), .inr (.ref 173), .inr (.ref 174), .inr (.ref 175), .inl 0, .inr (.ref 176), .inl 0, .inl 0, .inr (.ref 177), .inr (.ref 178), .inr (.ref 179), .inr (.ref 180), .inl 0, .inr (.ref 181), .inl 0, .inl 0, .inr (.ref 182), .inl 0, .inr (.ref 183), .inr (.ref 184), .inl 0, .inl 0, .inr (.ref 185), .inr (.ref 186), .inr (.ref 187)]), .inl (2, 3000, false), .inl (1, 17, true), .inl (0, 2, false), .inl (1, 32, true), .inl (0, 32, false), .inl (0, 32, false), .inl (0, 32, false), .inl (0, 32, false), .inl (0, 32, false), .inl (0, 32, false), .inl (0, 32, false), .inl (0, 32, false), .inl (0, 32, false), .inl (1, 160, true)]
def T_r7 : List mjTp := [.inl (0, 160, false), .inl (1, 256, true), .inl (1, 256, true), .inl (0, 256, false), .inl (0, 256, false), .inl (0, 256, false), .inl (0, 256, false), .inl (3, 1568, false), .inl (0, 2, false), .inl (0, 2, false), .inl (0, 2, false), .inl (0, 2, false), .inl (0, 800, false), .inl (0, 800, false), .inl (0, 800, false), .inl (0, 800, false)]
def T_r8 : List mjTp := [.inl (0, 800, false), .inl (0, 800, false), .inl (0, 800, false), .inl (0, 800, false), .inl (1, 800, true), .inl (0, 4800, false), .inl (0, 4800, false), .inl (1, 4800, true), .inl (1, 1600, true), .inl (0, 1600, false), .inl (0, 1600, false), .inl (0, 1600, false), .inl (1, 8000, true), .inl (0, 8000, false), .inl (0, 8000, false), .inl (0, 10000, false)]
def T_r9 : List mjTp := [.inl (0, 10000, false), .inl (0, 10000, false), .inl (0, 10000, false), .inl (1, 10000, true), .inl (0, 16, false), .inl (0, 16, false), .inl (0, 16, false), .inl (0, 64, false), .inl (0, 64, false), .inl (0, 64, false), .inl (0, 64, false), .inl (0, 200, false), .inl (0, 200, false), .inl (0, 1000, false), .inl (1, 16, true), .inl (0, 16, false)]
def T_r10 : List mjTp := [.inl (0, 16, false), .inl (3, 16, false), .inl (0, 64, false), .inl (0, 320, false), .inl (0, 64, false), .inl (0, 5, false), .inl (0, 5, false), .inl (0, 200, false), .inl (0, 4000, false), .inl (0, 1400, false), .inl (0, 1400, false), .inl (0, 40, false), .inl (0, 40, false), .inl (0, 40, false), .inl (0, 40, false), .inl (0, 640, false)]
def T_r11 : List mjTp := [.inl (0, 8000, false), .inl (3, 1400, false), .inl (0, 1400, false), .inl (0, 1400, false), .inl (0, 1400, false), .inl (3, 1400, false), .inl (0, 64, false), .inl (0, 16, false), .inl (3, 12800, false), .inl (0, 5, false), .inl (3, 1400, false), .inl (0, 1400, false)]
def T_0 : List mjTp := T_r0 ++ (T_r1 ++ (T_r2 ++ (T_r3 ++ (T_r4 ++ (T_r5 ++ (T_r6 ++ (T_r7 ++ (T_r8 ++ (T_r9 ++ (T_r10 ++ (T_r11)))))))))))
theorem T_ok : okL S_F T_0 = true := by decide +kernel
noncomputable def mjW0 (s : mjSt3) : mjH := mjHT T_0 s
noncomputable def s_0 : mjSt3 := st3 S_F (mjRU (b_225_778 (mjF 20) 97 H_F6))
theorem H_G_eq : H_G = mjW0 s_0 := mjFz_HT T_ok _
theorem tT_0 : T_0[0]? = some (.inr (11, [.inr (.ref 1), .inl 0, .inr (.ref 58), .inr (.ref 64), .inr (.ref 71), .inr (.ref 75), .inl 2, .inl 2, .inl 0, .inl 0, .inl 0, .inr (.ref 79), .inr (.ref 82), .inr (.ref 91)])) := by rfl
theorem xV_0 {s : mjSt3} {u : mjU} : rV (mjW0 s) 0 11 u = u := tr_V tT_0
theorem xg_0_0 {s : mjSt3} {k : Nat → mjU} : gR (mjW0 s) 0 11 0 k = k 1 := tg_R tT_0 rfl
theorem xg_0_1 {s : mjSt3} {k : Int32 → mjU} : gI (mjW0 s) 0 11 1 k = k (s.1 0 1) := tg_I tT_0 rfl
theorem xp_0_1 {s : mjSt3} {v : Int32} {k : mjH → mjU} : pI (mjW0 s) 0 11 1 v k = k (mjW0 (uI s 0 (upd (s.1 0) 1 v))) := tp_I tT_0 rfl
theorem xg_0_2 {s : mjSt3} {k : Nat → mjU} : gR (mjW0 s) 0 11 2 k = k 58 := tg_R tT_0 rfl
theorem xg_0_3 {s : mjSt3} {k : Nat → mjU} : gR (mjW0 s) 0 11 3 k = k 64 := tg_R tT_0 rfl
theorem xg_0_4 {s : mjSt3} {k : Nat → mjU} : gR (mjW0 s) 0 11 4 k = k 71 := tg_R tT_0 rfl
theorem xg_0_5 {s : mjSt3} {k : Nat → mjU} : gR (mjW0 s) 0 11 5 k = k 75 := tg_R tT_0 rfl
theorem xg_0_6 {s : mjSt3} {k : Nat → mjU} : gR (mjW0 s) 0 11 6 k = k (s.2.2 0 6) := tg_D tT_0 rfl
theorem xp_0_6 {s : mjSt3} {v : Nat} {k : mjH → mjU} : pR (mjW0 s) 0 11 6 v k = k (mjW0 (uR s 0 (updR (s.2.2 0) 6 v))) := tp_D tT_0 rfl
theorem xg_0_7 {s : mjSt3} {k : Nat → mjU} : gR (mjW0 s) 0 11 7 k = k (s.2.2 0 7) := tg_D tT_0 rfl
theorem xp_0_7 {s : mjSt3} {v : Nat} {k : mjH → mjU} : pR (mjW0 s) 0 11 7 v k = k (mjW0 (uR s 0 (updR (s.2.2 0) 7 v))) := tp_D tT_0 rfl
theorem xg_0_8 {s : mjSt3} {k : Int32 → mjU} : gI (mjW0 s) 0 11 8 k = k (s.1 0 8) := tg_I tT_0 rfl
theorem xp_0_8 {s : mjSt3} {v : Int32} {k : mjH → mjU} (hv : (v == 0 || v == 1) = true) : pZ (mjW0 s) 0 11 8 v k = k (mjW0 (uI s 0 (upd (s.1 0) 8 v))) := tp_Z tT_0 rfl hv
theorem xg_0_9 {s : mjSt3} {k : Int32 → mjU} : gI (mjW0 s) 0 11 9 k = k (s.1 0 9) := tg_I tT_0 rfl
theorem xp_0_9 {s : mjSt3} {v : Int32} {k : mjH → mjU} : pI (mjW0 s) 0 11 9 v k = k (mjW0 (uI s 0 (upd (s.1 0) 9 v))) := tp_I tT_0 rfl
theorem xg_0_10 {s : mjSt3} {k : Int32 → mjU} : gI (mjW0 s) 0 11 10 k = k (s.1 0 10) := tg_I tT_0 rfl
theorem xp_0_10 {s : mjSt3} {v : Int32} {k : mjH → mjU} : pI (mjW0 s) 0 11 10 v k = k (mjW0 (uI s 0 (upd (s.1 0) 10 v))) := tp_I tT_0 rfl
theorem xg_0_11 {s : mjSt3} {k : Nat → mjU} : gR (mjW0 s) 0 11 11 k = k 79 := tg_R tT_0 rfl
theorem xg_0_12 {s : mjSt3} {k : Nat → mjU} : gR (mjW0 s) 0 11 12 k = k 82 := tg_R tT_0 rfl
theorem xg_0_13 {s : mjSt3} {k : Nat → mjU} : gR (mjW0 s) 0 11 13 k = k 91 := tg_R tT_0 rfl
theorem tT_1 : T_0[1]? = some (.inl (2, 3000, false)) := by rfl
theorem xN_1 {s : mjSt3} {k : Int32 → mjU} : aN (mjW0 s) 1 k = k (Int32.ofNat 3000) := ta_N tT_1 (by decide)
theorem xa_1 {s : mjSt3} {i : Int32} {k : Int32 → mjU} : aB (mjW0 s) 1 i k = if mj_in i 3000 = true then k (s.1 1 i.toNatClampNeg) else none := ta_B tT_1 rfl
theorem xs_1 {s : mjSt3} {i x : Int32} {k : mjH → mjU} : sB (mjW0 s) 1 i x k = if mj_in i 3000 = true then k (mjW0 (uI s 1 (upd (s.1 1) i.toNatClampNeg (vp_nar .byte x)))) else none := ts_b tT_1
theorem tT_2 : T_0[2]? = some (.inr (7, [.inl 0, .inr (.ref 3), .inr (.ref 4), .inr (.ref 5), .inr (.ref 6), .inr (.ref 7), .inr (.ref 8), .inr (.ref 9), .inr (.ref 10), .inr (.ref 11), .inr (.ref 12), .inr (.ref 13), .inr (.ref 14), .inr (.ref 15), .inr (.ref 16), .inr (.ref 26)])) := by rfl
theorem xV_2 {s : mjSt3} {u : mjU} : rV (mjW0 s) 2 7 u = u := tr_V tT_2
theorem xg_2_0 {s : mjSt3} {k : Int32 → mjU} : gI (mjW0 s) 2 7 0 k = k (s.1 2 0) := tg_I tT_2 rfl
theorem xp_2_0 {s : mjSt3} {v : Int32} {k : mjH → mjU} : pI (mjW0 s) 2 7 0 v k = k (mjW0 (uI s 2 (upd (s.1 2) 0 v))) := tp_I tT_2 rfl
theorem xg_2_1 {s : mjSt3} {k : Nat → mjU} : gR (mjW0 s) 2 7 1 k = k 3 := tg_R tT_2 rfl
theorem xg_2_2 {s : mjSt3} {k : Nat → mjU} : gR (mjW0 s) 2 7 2 k = k 4 := tg_R tT_2 rfl
theorem xg_2_3 {s : mjSt3} {k : Nat → mjU} : gR (mjW0 s) 2 7 3 k = k 5 := tg_R tT_2 rfl
theorem xg_2_4 {s : mjSt3} {k : Nat → mjU} : gR (mjW0 s) 2 7 4 k = k 6 := tg_R tT_2 rfl
theorem xg_2_5 {s : mjSt3} {k : Nat → mjU} : gR (mjW0 s) 2 7 5 k = k 7 := tg_R tT_2 rfl
theorem xg_2_6 {s : mjSt3} {k : Nat → mjU} : gR (mjW0 s) 2 7 6 k = k 8 := tg_R tT_2 rfl
theorem xg_2_7 {s : mjSt3} {k : Nat → mjU} : gR (mjW0 s) 2 7 7 k = k 9 := tg_R tT_2 rfl
theorem xg_2_8 {s : mjSt3} {k : Nat → mjU} : gR (mjW0 s) 2 7 8 k = k 10 := tg_R tT_2 rfl
theorem xg_2_9 {s : mjSt3} {k : Nat → mjU} : gR (mjW0 s) 2 7 9 k = k 11 := tg_R tT_2 rfl
theorem xg_2_10 {s : mjSt3} {k : Nat → mjU} : gR (mjW0 s) 2 7 10 k = k 12 := tg_R tT_2 rfl
theorem xg_2_11 {s : mjSt3} {k : Nat → mjU} : gR (mjW0 s) 2 7 11 k = k 13 := tg_R tT_2 rfl
theorem xg_2_12 {s : mjSt3} {k : Nat → mjU} : gR (mjW0 s) 2 7 12 k = k 14 := tg_R tT_2 rfl
theorem xg_2_13 {s : mjSt3} {k : Nat → mjU} : gR (mjW0 s) 2 7 13 k = k 15 := tg_R tT_2 rfl
theorem xg_2_14 {s : mjSt3} {k : Nat → mjU} : gR (mjW0 s) 2 7 14 k = k 16 := tg_R tT_2 rfl
theorem xg_2_15 {s : mjSt3} {k : Nat → mjU} : gR (mjW0 s) 2 7 15 k = k 26 := tg_R tT_2 rfl
theorem tT_3 : T_0[3]? = some (.inl (0, 16, false)) := by rfl
theorem xN_3 {s : mjSt3} {k : Int32 → mjU} : aN (mjW0 s) 3 k = k (Int32.ofNat 16) := ta_N tT_3 (by decide)
theorem xa_3 {s : mjSt3} {i : Int32} {k : Int32 → mjU} : aI (mjW0 s) 3 i k = if mj_in i 16 = true then k (s.1 3 i.toNatClampNeg) else none := ta_I tT_3
theorem xs_3 {s : mjSt3} {i x : Int32} {k : mjH → mjU} : sI (mjW0 s) 3 i x k = if mj_in i 16 = true then k (mjW0 (uI s 3 (upd (s.1 3) i.toNatClampNeg x))) else none := ts_I tT_3
theorem tT_4 : T_0[4]? = some (.inl (0, 16, false)) := by rfl
theorem xN_4 {s : mjSt3} {k : Int32 → mjU} : aN (mjW0 s) 4 k = k (Int32.ofNat 16) := ta_N tT_4 (by decide)
theorem xa_4 {s : mjSt3} {i : Int32} {k : Int32 → mjU} : aI (mjW0 s) 4 i k = if mj_in i 16 = true then k (s.1 4 i.toNatClampNeg) else none := ta_I tT_4
theorem xs_4 {s : mjSt3} {i x : Int32} {k : mjH → mjU} : sI (mjW0 s) 4 i x k = if mj_in i 16 = true then k (mjW0 (uI s 4 (upd (s.1 4) i.toNatClampNeg x))) else none := ts_I tT_4
theorem tT_5 : T_0[5]? = some (.inl (0, 16, false)) := by rfl
theorem xN_5 {s : mjSt3} {k : Int32 → mjU} : aN (mjW0 s) 5 k = k (Int32.ofNat 16) := ta_N tT_5 (by decide)
theorem xa_5 {s : mjSt3} {i : Int32} {k : Int32 → mjU} : aI (mjW0 s) 5 i k = if mj_in i 16 = true then k (s.1 5 i.toNatClampNeg) else none := ta_I tT_5
theorem xs_5 {s : mjSt3} {i x : Int32} {k : mjH → mjU} : sI (mjW0 s) 5 i x k = if mj_in i 16 = true then k (mjW0 (uI s 5 (upd (s.1 5) i.toNatClampNeg x))) else none := ts_I tT_5
theorem tT_6 : T_0[6]? = some (.inl (0, 128, false)) := by rfl
theorem xN_6 {s : mjSt3} {k : Int32 → mjU} : aN (mjW0 s) 6 k = k (Int32.ofNat 128) := ta_N tT_6 (by decide)
theorem xa_6 {s : mjSt3} {i : Int32} {k : Int32 → mjU} : aI (mjW0 s) 6 i k = if mj_in i 128 = true then k (s.1 6 i.toNatClampNeg) else none := ta_I tT_6
theorem xs_6 {s : mjSt3} {i x : Int32} {k : mjH → mjU} : sI (mjW0 s) 6 i x k = if mj_in i 128 = true then k (mjW0 (uI s 6 (upd (s.1 6) i.toNatClampNeg x))) else none := ts_I tT_6
theorem tT_7 : T_0[7]? = some (.inl (0, 16, false)) := by rfl
theorem xN_7 {s : mjSt3} {k : Int32 → mjU} : aN (mjW0 s) 7 k = k (Int32.ofNat 16) := ta_N tT_7 (by decide)
theorem xa_7 {s : mjSt3} {i : Int32} {k : Int32 → mjU} : aI (mjW0 s) 7 i k = if mj_in i 16 = true then k (s.1 7 i.toNatClampNeg) else none := ta_I tT_7
theorem xs_7 {s : mjSt3} {i x : Int32} {k : mjH → mjU} : sI (mjW0 s) 7 i x k = if mj_in i 16 = true then k (mjW0 (uI s 7 (upd (s.1 7) i.toNatClampNeg x))) else none := ts_I tT_7
theorem tT_8 : T_0[8]? = some (.inl (0, 16, false)) := by rfl
theorem xN_8 {s : mjSt3} {k : Int32 → mjU} : aN (mjW0 s) 8 k = k (Int32.ofNat 16) := ta_N tT_8 (by decide)
theorem xa_8 {s : mjSt3} {i : Int32} {k : Int32 → mjU} : aI (mjW0 s) 8 i k = if mj_in i 16 = true then k (s.1 8 i.toNatClampNeg) else none := ta_I tT_8
theorem xs_8 {s : mjSt3} {i x : Int32} {k : mjH → mjU} : sI (mjW0 s) 8 i x k = if mj_in i 16 = true then k (mjW0 (uI s 8 (upd (s.1 8) i.toNatClampNeg x))) else none := ts_I tT_8
theorem tT_9 : T_0[9]? = some (.inl (0, 16, false)) := by rfl
theorem xN_9 {s : mjSt3} {k : Int32 → mjU} : aN (mjW0 s) 9 k = k (Int32.ofNat 16) := ta_N tT_9 (by decide)
theorem xa_9 {s : mjSt3} {i : Int32} {k : Int32 → mjU} : aI (mjW0 s) 9 i k = if mj_in i 16 = true then k (s.1 9 i.toNatClampNeg) else none := ta_I tT_9
theorem xs_9 {s : mjSt3} {i x : Int32} {k : mjH → mjU} : sI (mjW0 s) 9 i x k = if mj_in i 16 = true then k (mjW0 (uI s 9 (upd (s.1 9) i.toNatClampNeg x))) else none := ts_I tT_9
theorem tT_10 : T_0[10]? = some (.inl (0, 16, false)) := by rfl
theorem xN_10 {s : mjSt3} {k : Int32 → mjU} : aN (mjW0 s) 10 k = k (Int32.ofNat 16) := ta_N tT_10 (by decide)
theorem xa_10 {s : mjSt3} {i : Int32} {k : Int32 → mjU} : aI (mjW0 s) 10 i k = if mj_in i 16 = true then k (s.1 10 i.toNatClampNeg) else none := ta_I tT_10
theorem xs_10 {s : mjSt3} {i x : Int32} {k : mjH → mjU} : sI (mjW0 s) 10 i x k = if mj_in i 16 = true then k (mjW0 (uI s 10 (upd (s.1 10) i.toNatClampNeg x))) else none := ts_I tT_10
theorem tT_11 : T_0[11]? = some (.inl (0, 16, false)) := by rfl
theorem xN_11 {s : mjSt3} {k : Int32 → mjU} : aN (mjW0 s) 11 k = k (Int32.ofNat 16) := ta_N tT_11 (by decide)
theorem xa_11 {s : mjSt3} {i : Int32} {k : Int32 → mjU} : aI (mjW0 s) 11 i k = if mj_in i 16 = true then k (s.1 11 i.toNatClampNeg) else none := ta_I tT_11
theorem xs_11 {s : mjSt3} {i x : Int32} {k : mjH → mjU} : sI (mjW0 s) 11 i x k = if mj_in i 16 = true then k (mjW0 (uI s 11 (upd (s.1 11) i.toNatClampNeg x))) else none := ts_I tT_11
theorem tT_12 : T_0[12]? = some (.inl (0, 16, false)) := by rfl
theorem xN_12 {s : mjSt3} {k : Int32 → mjU} : aN (mjW0 s) 12 k = k (Int32.ofNat 16) := ta_N tT_12 (by decide)
theorem xa_12 {s : mjSt3} {i : Int32} {k : Int32 → mjU} : aI (mjW0 s) 12 i k = if mj_in i 16 = true then k (s.1 12 i.toNatClampNeg) else none := ta_I tT_12
theorem xs_12 {s : mjSt3} {i x : Int32} {k : mjH → mjU} : sI (mjW0 s) 12 i x k = if mj_in i 16 = true then k (mjW0 (uI s 12 (upd (s.1 12) i.toNatClampNeg x))) else none := ts_I tT_12
theorem tT_13 : T_0[13]? = some (.inl (0, 112, false)) := by rfl
theorem xN_13 {s : mjSt3} {k : Int32 → mjU} : aN (mjW0 s) 13 k = k (Int32.ofNat 112) := ta_N tT_13 (by decide)
theorem xa_13 {s : mjSt3} {i : Int32} {k : Int32 → mjU} : aI (mjW0 s) 13 i k = if mj_in i 112 = true then k (s.1 13 i.toNatClampNeg) else none := ta_I tT_13
theorem xs_13 {s : mjSt3} {i x : Int32} {k : mjH → mjU} : sI (mjW0 s) 13 i x k = if mj_in i 112 = true then k (mjW0 (uI s 13 (upd (s.1 13) i.toNatClampNeg x))) else none := ts_I tT_13
theorem tT_14 : T_0[14]? = some (.inl (0, 256, false)) := by rfl
theorem xN_14 {s : mjSt3} {k : Int32 → mjU} : aN (mjW0 s) 14 k = k (Int32.ofNat 256) := ta_N tT_14 (by decide)
theorem xa_14 {s : mjSt3} {i : Int32} {k : Int32 → mjU} : aI (mjW0 s) 14 i k = if mj_in i 256 = true then k (s.1 14 i.toNatClampNeg) else none := ta_I tT_14
theorem xs_14 {s : mjSt3} {i x : Int32} {k : mjH → mjU} : sI (mjW0 s) 14 i x k = if mj_in i 256 = true then k (mjW0 (uI s 14 (upd (s.1 14) i.toNatClampNeg x))) else none := ts_I tT_14
theorem tT_15 : T_0[15]? = some (.inl (1, 96, true)) := by rfl
theorem xN_15 {s : mjSt3} {k : Int32 → mjU} : aN (mjW0 s) 15 k = k (Int32.ofNat 96) := ta_N tT_15 (by decide)
theorem xa_15 {s : mjSt3} {i : Int32} {k : Int64 → mjU} : aL (mjW0 s) 15 i k = if mj_in i 96 = true then k (s.2.1 15 i.toNatClampNeg) else none := ta_L tT_15
theorem xs_15 {s : mjSt3} {i : Int32} {x : Int64} {k : mjH → mjU} : sL (mjW0 s) 15 i x k = if mj_in i 96 = true then k (mjW0 (uL s 15 (vp_updL (s.2.1 15) i.toNatClampNeg x))) else none := ts_L tT_15
theorem tT_16 : T_0[16]? = some (.inr (6, [.inl 0, .inr (.ref 17), .inr (.ref 18), .inr (.ref 19), .inr (.ref 20), .inr (.ref 21), .inr (.ref 22), .inr (.ref 23), .inr (.ref 24), .inr (.ref 25)])) := by rfl
theorem xV_16 {s : mjSt3} {u : mjU} : rV (mjW0 s) 16 6 u = u := tr_V tT_16
theorem xg_16_0 {s : mjSt3} {k : Int32 → mjU} : gI (mjW0 s) 16 6 0 k = k (s.1 16 0) := tg_I tT_16 rfl
theorem xp_16_0 {s : mjSt3} {v : Int32} {k : mjH → mjU} : pI (mjW0 s) 16 6 0 v k = k (mjW0 (uI s 16 (upd (s.1 16) 0 v))) := tp_I tT_16 rfl
theorem xg_16_1 {s : mjSt3} {k : Nat → mjU} : gR (mjW0 s) 16 6 1 k = k 17 := tg_R tT_16 rfl
theorem xg_16_2 {s : mjSt3} {k : Nat → mjU} : gR (mjW0 s) 16 6 2 k = k 18 := tg_R tT_16 rfl
theorem xg_16_3 {s : mjSt3} {k : Nat → mjU} : gR (mjW0 s) 16 6 3 k = k 19 := tg_R tT_16 rfl
theorem xg_16_4 {s : mjSt3} {k : Nat → mjU} : gR (mjW0 s) 16 6 4 k = k 20 := tg_R tT_16 rfl
theorem xg_16_5 {s : mjSt3} {k : Nat → mjU} : gR (mjW0 s) 16 6 5 k = k 21 := tg_R tT_16 rfl
theorem xg_16_6 {s : mjSt3} {k : Nat → mjU} : gR (mjW0 s) 16 6 6 k = k 22 := tg_R tT_16 rfl
theorem xg_16_7 {s : mjSt3} {k : Nat → mjU} : gR (mjW0 s) 16 6 7 k = k 23 := tg_R tT_16 rfl
theorem xg_16_8 {s : mjSt3} {k : Nat → mjU} : gR (mjW0 s) 16 6 8 k = k 24 := tg_R tT_16 rfl
theorem xg_16_9 {s : mjSt3} {k : Nat → mjU} : gR (mjW0 s) 16 6 9 k = k 25 := tg_R tT_16 rfl
theorem tT_17 : T_0[17]? = some (.inl (1, 385, true)) := by rfl
theorem xN_17 {s : mjSt3} {k : Int32 → mjU} : aN (mjW0 s) 17 k = k (Int32.ofNat 385) := ta_N tT_17 (by decide)
theorem xa_17 {s : mjSt3} {i : Int32} {k : Int64 → mjU} : aL (mjW0 s) 17 i k = if mj_in i 385 = true then k (s.2.1 17 i.toNatClampNeg) else none := ta_L tT_17
theorem xs_17 {s : mjSt3} {i : Int32} {x : Int64} {k : mjH → mjU} : sL (mjW0 s) 17 i x k = if mj_in i 385 = true then k (mjW0 (uL s 17 (vp_updL (s.2.1 17) i.toNatClampNeg x))) else none := ts_L tT_17
theorem tT_18 : T_0[18]? = some (.inl (0, 385, false)) := by rfl
theorem xN_18 {s : mjSt3} {k : Int32 → mjU} : aN (mjW0 s) 18 k = k (Int32.ofNat 385) := ta_N tT_18 (by decide)
theorem xa_18 {s : mjSt3} {i : Int32} {k : Int32 → mjU} : aI (mjW0 s) 18 i k = if mj_in i 385 = true then k (s.1 18 i.toNatClampNeg) else none := ta_I tT_18
theorem xs_18 {s : mjSt3} {i x : Int32} {k : mjH → mjU} : sI (mjW0 s) 18 i x k = if mj_in i 385 = true then k (mjW0 (uI s 18 (upd (s.1 18) i.toNatClampNeg x))) else none := ts_I tT_18
theorem tT_19 : T_0[19]? = some (.inl (0, 385, false)) := by rfl
theorem xN_19 {s : mjSt3} {k : Int32 → mjU} : aN (mjW0 s) 19 k = k (Int32.ofNat 385) := ta_N tT_19 (by decide)
theorem xa_19 {s : mjSt3} {i : Int32} {k : Int32 → mjU} : aI (mjW0 s) 19 i k = if mj_in i 385 = true then k (s.1 19 i.toNatClampNeg) else none := ta_I tT_19
theorem xs_19 {s : mjSt3} {i x : Int32} {k : mjH → mjU} : sI (mjW0 s) 19 i x k = if mj_in i 385 = true then k (mjW0 (uI s 19 (upd (s.1 19) i.toNatClampNeg x))) else none := ts_I tT_19
theorem tT_20 : T_0[20]? = some (.inl (3, 385, false)) := by rfl
theorem xN_20 {s : mjSt3} {k : Int32 → mjU} : aN (mjW0 s) 20 k = k (Int32.ofNat 385) := ta_N tT_20 (by decide)
theorem xa_20 {s : mjSt3} {i : Int32} {k : Int32 → mjU} : aB (mjW0 s) 20 i k = if mj_in i 385 = true then k (s.1 20 i.toNatClampNeg) else none := ta_B tT_20 rfl
theorem xs_20 {s : mjSt3} {i x : Int32} {k : mjH → mjU} : sB (mjW0 s) 20 i x k = if mj_in i 385 = true then k (mjW0 (uI s 20 (upd (s.1 20) i.toNatClampNeg (vp_nar .boolean x)))) else none := ts_z tT_20
theorem tT_21 : T_0[21]? = some (.inl (0, 385, false)) := by rfl
theorem xN_21 {s : mjSt3} {k : Int32 → mjU} : aN (mjW0 s) 21 k = k (Int32.ofNat 385) := ta_N tT_21 (by decide)
theorem xa_21 {s : mjSt3} {i : Int32} {k : Int32 → mjU} : aI (mjW0 s) 21 i k = if mj_in i 385 = true then k (s.1 21 i.toNatClampNeg) else none := ta_I tT_21
theorem xs_21 {s : mjSt3} {i x : Int32} {k : mjH → mjU} : sI (mjW0 s) 21 i x k = if mj_in i 385 = true then k (mjW0 (uI s 21 (upd (s.1 21) i.toNatClampNeg x))) else none := ts_I tT_21
theorem tT_22 : T_0[22]? = some (.inl (0, 385, false)) := by rfl
theorem xN_22 {s : mjSt3} {k : Int32 → mjU} : aN (mjW0 s) 22 k = k (Int32.ofNat 385) := ta_N tT_22 (by decide)
theorem xa_22 {s : mjSt3} {i : Int32} {k : Int32 → mjU} : aI (mjW0 s) 22 i k = if mj_in i 385 = true then k (s.1 22 i.toNatClampNeg) else none := ta_I tT_22
theorem xs_22 {s : mjSt3} {i x : Int32} {k : mjH → mjU} : sI (mjW0 s) 22 i x k = if mj_in i 385 = true then k (mjW0 (uI s 22 (upd (s.1 22) i.toNatClampNeg x))) else none := ts_I tT_22
theorem tT_23 : T_0[23]? = some (.inl (0, 2310, false)) := by rfl
theorem xN_23 {s : mjSt3} {k : Int32 → mjU} : aN (mjW0 s) 23 k = k (Int32.ofNat 2310) := ta_N tT_23 (by decide)
theorem xa_23 {s : mjSt3} {i : Int32} {k : Int32 → mjU} : aI (mjW0 s) 23 i k = if mj_in i 2310 = true then k (s.1 23 i.toNatClampNeg) else none := ta_I tT_23
theorem xs_23 {s : mjSt3} {i x : Int32} {k : mjH → mjU} : sI (mjW0 s) 23 i x k = if mj_in i 2310 = true then k (mjW0 (uI s 23 (upd (s.1 23) i.toNatClampNeg x))) else none := ts_I tT_23
theorem tT_24 : T_0[24]? = some (.inl (0, 385, false)) := by rfl
theorem xN_24 {s : mjSt3} {k : Int32 → mjU} : aN (mjW0 s) 24 k = k (Int32.ofNat 385) := ta_N tT_24 (by decide)
theorem xa_24 {s : mjSt3} {i : Int32} {k : Int32 → mjU} : aI (mjW0 s) 24 i k = if mj_in i 385 = true then k (s.1 24 i.toNatClampNeg) else none := ta_I tT_24
theorem xs_24 {s : mjSt3} {i x : Int32} {k : mjH → mjU} : sI (mjW0 s) 24 i x k = if mj_in i 385 = true then k (mjW0 (uI s 24 (upd (s.1 24) i.toNatClampNeg x))) else none := ts_I tT_24
theorem tT_25 : T_0[25]? = some (.inl (0, 385, false)) := by rfl
theorem xN_25 {s : mjSt3} {k : Int32 → mjU} : aN (mjW0 s) 25 k = k (Int32.ofNat 385) := ta_N tT_25 (by decide)
theorem xa_25 {s : mjSt3} {i : Int32} {k : Int32 → mjU} : aI (mjW0 s) 25 i k = if mj_in i 385 = true then k (s.1 25 i.toNatClampNeg) else none := ta_I tT_25
theorem xs_25 {s : mjSt3} {i x : Int32} {k : mjH → mjU} : sI (mjW0 s) 25 i x k = if mj_in i 385 = true then k (mjW0 (uI s 25 (upd (s.1 25) i.toNatClampNeg x))) else none := ts_I tT_25
theorem tT_26 : T_0[26]? = some (.inr (0, [.inr (.ref 27), .inr (.ref 28), .inr (.ref 29), .inl 0])) := by rfl
theorem xV_26 {s : mjSt3} {u : mjU} : rV (mjW0 s) 26 0 u = u := tr_V tT_26
theorem xg_26_0 {s : mjSt3} {k : Nat → mjU} : gR (mjW0 s) 26 0 0 k = k 27 := tg_R tT_26 rfl
theorem xg_26_1 {s : mjSt3} {k : Nat → mjU} : gR (mjW0 s) 26 0 1 k = k 28 := tg_R tT_26 rfl
theorem xg_26_2 {s : mjSt3} {k : Nat → mjU} : gR (mjW0 s) 26 0 2 k = k 29 := tg_R tT_26 rfl
theorem xg_26_3 {s : mjSt3} {k : Int32 → mjU} : gI (mjW0 s) 26 0 3 k = k (s.1 26 3) := tg_I tT_26 rfl
theorem xp_26_3 {s : mjSt3} {v : Int32} {k : mjH → mjU} : pI (mjW0 s) 26 0 3 v k = k (mjW0 (uI s 26 (upd (s.1 26) 3 v))) := tp_I tT_26 rfl
theorem tT_27 : T_0[27]? = some (.inl (0, 3100, false)) := by rfl
theorem xN_27 {s : mjSt3} {k : Int32 → mjU} : aN (mjW0 s) 27 k = k (Int32.ofNat 3100) := ta_N tT_27 (by decide)
theorem xa_27 {s : mjSt3} {i : Int32} {k : Int32 → mjU} : aI (mjW0 s) 27 i k = if mj_in i 3100 = true then k (s.1 27 i.toNatClampNeg) else none := ta_I tT_27
theorem xs_27 {s : mjSt3} {i x : Int32} {k : mjH → mjU} : sI (mjW0 s) 27 i x k = if mj_in i 3100 = true then k (mjW0 (uI s 27 (upd (s.1 27) i.toNatClampNeg x))) else none := ts_I tT_27
theorem tT_28 : T_0[28]? = some (.inl (0, 3100, false)) := by rfl
theorem xN_28 {s : mjSt3} {k : Int32 → mjU} : aN (mjW0 s) 28 k = k (Int32.ofNat 3100) := ta_N tT_28 (by decide)
theorem xa_28 {s : mjSt3} {i : Int32} {k : Int32 → mjU} : aI (mjW0 s) 28 i k = if mj_in i 3100 = true then k (s.1 28 i.toNatClampNeg) else none := ta_I tT_28
theorem xs_28 {s : mjSt3} {i x : Int32} {k : mjH → mjU} : sI (mjW0 s) 28 i x k = if mj_in i 3100 = true then k (mjW0 (uI s 28 (upd (s.1 28) i.toNatClampNeg x))) else none := ts_I tT_28
theorem tT_29 : T_0[29]? = some (.inl (0, 3100, false)) := by rfl
theorem xN_29 {s : mjSt3} {k : Int32 → mjU} : aN (mjW0 s) 29 k = k (Int32.ofNat 3100) := ta_N tT_29 (by decide)
theorem xa_29 {s : mjSt3} {i : Int32} {k : Int32 → mjU} : aI (mjW0 s) 29 i k = if mj_in i 3100 = true then k (s.1 29 i.toNatClampNeg) else none := ta_I tT_29
theorem xs_29 {s : mjSt3} {i x : Int32} {k : mjH → mjU} : sI (mjW0 s) 29 i x k = if mj_in i 3100 = true then k (mjW0 (uI s 29 (upd (s.1 29) i.toNatClampNeg x))) else none := ts_I tT_29
theorem tT_30 : T_0[30]? = some (.inr (7, [.inl 0, .inr (.ref 31), .inr (.ref 32), .inr (.ref 33), .inr (.ref 34), .inr (.ref 35), .inr (.ref 36), .inr (.ref 37), .inr (.ref 38), .inr (.ref 39), .inr (.ref 40), .inr (.ref 41), .inr (.ref 42), .inr (.ref 43), .inr (.ref 44), .inr (.ref 54)])) := by rfl
theorem xV_30 {s : mjSt3} {u : mjU} : rV (mjW0 s) 30 7 u = u := tr_V tT_30
theorem xg_30_0 {s : mjSt3} {k : Int32 → mjU} : gI (mjW0 s) 30 7 0 k = k (s.1 30 0) := tg_I tT_30 rfl
theorem xp_30_0 {s : mjSt3} {v : Int32} {k : mjH → mjU} : pI (mjW0 s) 30 7 0 v k = k (mjW0 (uI s 30 (upd (s.1 30) 0 v))) := tp_I tT_30 rfl
theorem xg_30_1 {s : mjSt3} {k : Nat → mjU} : gR (mjW0 s) 30 7 1 k = k 31 := tg_R tT_30 rfl
theorem xg_30_2 {s : mjSt3} {k : Nat → mjU} : gR (mjW0 s) 30 7 2 k = k 32 := tg_R tT_30 rfl
theorem xg_30_3 {s : mjSt3} {k : Nat → mjU} : gR (mjW0 s) 30 7 3 k = k 33 := tg_R tT_30 rfl
theorem xg_30_4 {s : mjSt3} {k : Nat → mjU} : gR (mjW0 s) 30 7 4 k = k 34 := tg_R tT_30 rfl
theorem xg_30_5 {s : mjSt3} {k : Nat → mjU} : gR (mjW0 s) 30 7 5 k = k 35 := tg_R tT_30 rfl
theorem xg_30_6 {s : mjSt3} {k : Nat → mjU} : gR (mjW0 s) 30 7 6 k = k 36 := tg_R tT_30 rfl
theorem xg_30_7 {s : mjSt3} {k : Nat → mjU} : gR (mjW0 s) 30 7 7 k = k 37 := tg_R tT_30 rfl
theorem xg_30_8 {s : mjSt3} {k : Nat → mjU} : gR (mjW0 s) 30 7 8 k = k 38 := tg_R tT_30 rfl
theorem xg_30_9 {s : mjSt3} {k : Nat → mjU} : gR (mjW0 s) 30 7 9 k = k 39 := tg_R tT_30 rfl
theorem xg_30_10 {s : mjSt3} {k : Nat → mjU} : gR (mjW0 s) 30 7 10 k = k 40 := tg_R tT_30 rfl
theorem xg_30_11 {s : mjSt3} {k : Nat → mjU} : gR (mjW0 s) 30 7 11 k = k 41 := tg_R tT_30 rfl
theorem xg_30_12 {s : mjSt3} {k : Nat → mjU} : gR (mjW0 s) 30 7 12 k = k 42 := tg_R tT_30 rfl
theorem xg_30_13 {s : mjSt3} {k : Nat → mjU} : gR (mjW0 s) 30 7 13 k = k 43 := tg_R tT_30 rfl
theorem xg_30_14 {s : mjSt3} {k : Nat → mjU} : gR (mjW0 s) 30 7 14 k = k 44 := tg_R tT_30 rfl
theorem xg_30_15 {s : mjSt3} {k : Nat → mjU} : gR (mjW0 s) 30 7 15 k = k 54 := tg_R tT_30 rfl
theorem tT_31 : T_0[31]? = some (.inl (0, 16, false)) := by rfl
theorem xN_31 {s : mjSt3} {k : Int32 → mjU} : aN (mjW0 s) 31 k = k (Int32.ofNat 16) := ta_N tT_31 (by decide)
theorem xa_31 {s : mjSt3} {i : Int32} {k : Int32 → mjU} : aI (mjW0 s) 31 i k = if mj_in i 16 = true then k (s.1 31 i.toNatClampNeg) else none := ta_I tT_31
theorem xs_31 {s : mjSt3} {i x : Int32} {k : mjH → mjU} : sI (mjW0 s) 31 i x k = if mj_in i 16 = true then k (mjW0 (uI s 31 (upd (s.1 31) i.toNatClampNeg x))) else none := ts_I tT_31
theorem tT_32 : T_0[32]? = some (.inl (0, 16, false)) := by rfl
theorem xN_32 {s : mjSt3} {k : Int32 → mjU} : aN (mjW0 s) 32 k = k (Int32.ofNat 16) := ta_N tT_32 (by decide)
theorem xa_32 {s : mjSt3} {i : Int32} {k : Int32 → mjU} : aI (mjW0 s) 32 i k = if mj_in i 16 = true then k (s.1 32 i.toNatClampNeg) else none := ta_I tT_32
theorem xs_32 {s : mjSt3} {i x : Int32} {k : mjH → mjU} : sI (mjW0 s) 32 i x k = if mj_in i 16 = true then k (mjW0 (uI s 32 (upd (s.1 32) i.toNatClampNeg x))) else none := ts_I tT_32
theorem tT_33 : T_0[33]? = some (.inl (0, 16, false)) := by rfl
theorem xN_33 {s : mjSt3} {k : Int32 → mjU} : aN (mjW0 s) 33 k = k (Int32.ofNat 16) := ta_N tT_33 (by decide)
theorem xa_33 {s : mjSt3} {i : Int32} {k : Int32 → mjU} : aI (mjW0 s) 33 i k = if mj_in i 16 = true then k (s.1 33 i.toNatClampNeg) else none := ta_I tT_33
theorem xs_33 {s : mjSt3} {i x : Int32} {k : mjH → mjU} : sI (mjW0 s) 33 i x k = if mj_in i 16 = true then k (mjW0 (uI s 33 (upd (s.1 33) i.toNatClampNeg x))) else none := ts_I tT_33
theorem tT_34 : T_0[34]? = some (.inl (0, 128, false)) := by rfl
theorem xN_34 {s : mjSt3} {k : Int32 → mjU} : aN (mjW0 s) 34 k = k (Int32.ofNat 128) := ta_N tT_34 (by decide)
theorem xa_34 {s : mjSt3} {i : Int32} {k : Int32 → mjU} : aI (mjW0 s) 34 i k = if mj_in i 128 = true then k (s.1 34 i.toNatClampNeg) else none := ta_I tT_34
theorem xs_34 {s : mjSt3} {i x : Int32} {k : mjH → mjU} : sI (mjW0 s) 34 i x k = if mj_in i 128 = true then k (mjW0 (uI s 34 (upd (s.1 34) i.toNatClampNeg x))) else none := ts_I tT_34
theorem tT_35 : T_0[35]? = some (.inl (0, 16, false)) := by rfl
theorem xN_35 {s : mjSt3} {k : Int32 → mjU} : aN (mjW0 s) 35 k = k (Int32.ofNat 16) := ta_N tT_35 (by decide)
theorem xa_35 {s : mjSt3} {i : Int32} {k : Int32 → mjU} : aI (mjW0 s) 35 i k = if mj_in i 16 = true then k (s.1 35 i.toNatClampNeg) else none := ta_I tT_35
theorem xs_35 {s : mjSt3} {i x : Int32} {k : mjH → mjU} : sI (mjW0 s) 35 i x k = if mj_in i 16 = true then k (mjW0 (uI s 35 (upd (s.1 35) i.toNatClampNeg x))) else none := ts_I tT_35
theorem tT_36 : T_0[36]? = some (.inl (0, 16, false)) := by rfl
theorem xN_36 {s : mjSt3} {k : Int32 → mjU} : aN (mjW0 s) 36 k = k (Int32.ofNat 16) := ta_N tT_36 (by decide)
theorem xa_36 {s : mjSt3} {i : Int32} {k : Int32 → mjU} : aI (mjW0 s) 36 i k = if mj_in i 16 = true then k (s.1 36 i.toNatClampNeg) else none := ta_I tT_36
theorem xs_36 {s : mjSt3} {i x : Int32} {k : mjH → mjU} : sI (mjW0 s) 36 i x k = if mj_in i 16 = true then k (mjW0 (uI s 36 (upd (s.1 36) i.toNatClampNeg x))) else none := ts_I tT_36
theorem tT_37 : T_0[37]? = some (.inl (0, 16, false)) := by rfl
theorem xN_37 {s : mjSt3} {k : Int32 → mjU} : aN (mjW0 s) 37 k = k (Int32.ofNat 16) := ta_N tT_37 (by decide)
theorem xa_37 {s : mjSt3} {i : Int32} {k : Int32 → mjU} : aI (mjW0 s) 37 i k = if mj_in i 16 = true then k (s.1 37 i.toNatClampNeg) else none := ta_I tT_37
theorem xs_37 {s : mjSt3} {i x : Int32} {k : mjH → mjU} : sI (mjW0 s) 37 i x k = if mj_in i 16 = true then k (mjW0 (uI s 37 (upd (s.1 37) i.toNatClampNeg x))) else none := ts_I tT_37
theorem tT_38 : T_0[38]? = some (.inl (0, 16, false)) := by rfl
theorem xN_38 {s : mjSt3} {k : Int32 → mjU} : aN (mjW0 s) 38 k = k (Int32.ofNat 16) := ta_N tT_38 (by decide)
theorem xa_38 {s : mjSt3} {i : Int32} {k : Int32 → mjU} : aI (mjW0 s) 38 i k = if mj_in i 16 = true then k (s.1 38 i.toNatClampNeg) else none := ta_I tT_38
theorem xs_38 {s : mjSt3} {i x : Int32} {k : mjH → mjU} : sI (mjW0 s) 38 i x k = if mj_in i 16 = true then k (mjW0 (uI s 38 (upd (s.1 38) i.toNatClampNeg x))) else none := ts_I tT_38
theorem tT_39 : T_0[39]? = some (.inl (0, 16, false)) := by rfl
theorem xN_39 {s : mjSt3} {k : Int32 → mjU} : aN (mjW0 s) 39 k = k (Int32.ofNat 16) := ta_N tT_39 (by decide)
theorem xa_39 {s : mjSt3} {i : Int32} {k : Int32 → mjU} : aI (mjW0 s) 39 i k = if mj_in i 16 = true then k (s.1 39 i.toNatClampNeg) else none := ta_I tT_39
theorem xs_39 {s : mjSt3} {i x : Int32} {k : mjH → mjU} : sI (mjW0 s) 39 i x k = if mj_in i 16 = true then k (mjW0 (uI s 39 (upd (s.1 39) i.toNatClampNeg x))) else none := ts_I tT_39
theorem tT_40 : T_0[40]? = some (.inl (0, 16, false)) := by rfl
theorem xN_40 {s : mjSt3} {k : Int32 → mjU} : aN (mjW0 s) 40 k = k (Int32.ofNat 16) := ta_N tT_40 (by decide)
theorem xa_40 {s : mjSt3} {i : Int32} {k : Int32 → mjU} : aI (mjW0 s) 40 i k = if mj_in i 16 = true then k (s.1 40 i.toNatClampNeg) else none := ta_I tT_40
theorem xs_40 {s : mjSt3} {i x : Int32} {k : mjH → mjU} : sI (mjW0 s) 40 i x k = if mj_in i 16 = true then k (mjW0 (uI s 40 (upd (s.1 40) i.toNatClampNeg x))) else none := ts_I tT_40
theorem tT_41 : T_0[41]? = some (.inl (0, 112, false)) := by rfl
theorem xN_41 {s : mjSt3} {k : Int32 → mjU} : aN (mjW0 s) 41 k = k (Int32.ofNat 112) := ta_N tT_41 (by decide)
theorem xa_41 {s : mjSt3} {i : Int32} {k : Int32 → mjU} : aI (mjW0 s) 41 i k = if mj_in i 112 = true then k (s.1 41 i.toNatClampNeg) else none := ta_I tT_41
theorem xs_41 {s : mjSt3} {i x : Int32} {k : mjH → mjU} : sI (mjW0 s) 41 i x k = if mj_in i 112 = true then k (mjW0 (uI s 41 (upd (s.1 41) i.toNatClampNeg x))) else none := ts_I tT_41
theorem tT_42 : T_0[42]? = some (.inl (0, 256, false)) := by rfl
theorem xN_42 {s : mjSt3} {k : Int32 → mjU} : aN (mjW0 s) 42 k = k (Int32.ofNat 256) := ta_N tT_42 (by decide)
theorem xa_42 {s : mjSt3} {i : Int32} {k : Int32 → mjU} : aI (mjW0 s) 42 i k = if mj_in i 256 = true then k (s.1 42 i.toNatClampNeg) else none := ta_I tT_42
theorem xs_42 {s : mjSt3} {i x : Int32} {k : mjH → mjU} : sI (mjW0 s) 42 i x k = if mj_in i 256 = true then k (mjW0 (uI s 42 (upd (s.1 42) i.toNatClampNeg x))) else none := ts_I tT_42
theorem tT_43 : T_0[43]? = some (.inl (1, 96, true)) := by rfl
theorem xN_43 {s : mjSt3} {k : Int32 → mjU} : aN (mjW0 s) 43 k = k (Int32.ofNat 96) := ta_N tT_43 (by decide)
theorem xa_43 {s : mjSt3} {i : Int32} {k : Int64 → mjU} : aL (mjW0 s) 43 i k = if mj_in i 96 = true then k (s.2.1 43 i.toNatClampNeg) else none := ta_L tT_43
theorem xs_43 {s : mjSt3} {i : Int32} {x : Int64} {k : mjH → mjU} : sL (mjW0 s) 43 i x k = if mj_in i 96 = true then k (mjW0 (uL s 43 (vp_updL (s.2.1 43) i.toNatClampNeg x))) else none := ts_L tT_43
theorem tT_44 : T_0[44]? = some (.inr (6, [.inl 0, .inr (.ref 45), .inr (.ref 46), .inr (.ref 47), .inr (.ref 48), .inr (.ref 49), .inr (.ref 50), .inr (.ref 51), .inr (.ref 52), .inr (.ref 53)])) := by rfl
theorem xV_44 {s : mjSt3} {u : mjU} : rV (mjW0 s) 44 6 u = u := tr_V tT_44
theorem xg_44_0 {s : mjSt3} {k : Int32 → mjU} : gI (mjW0 s) 44 6 0 k = k (s.1 44 0) := tg_I tT_44 rfl
theorem xp_44_0 {s : mjSt3} {v : Int32} {k : mjH → mjU} : pI (mjW0 s) 44 6 0 v k = k (mjW0 (uI s 44 (upd (s.1 44) 0 v))) := tp_I tT_44 rfl
theorem xg_44_1 {s : mjSt3} {k : Nat → mjU} : gR (mjW0 s) 44 6 1 k = k 45 := tg_R tT_44 rfl
theorem xg_44_2 {s : mjSt3} {k : Nat → mjU} : gR (mjW0 s) 44 6 2 k = k 46 := tg_R tT_44 rfl
theorem xg_44_3 {s : mjSt3} {k : Nat → mjU} : gR (mjW0 s) 44 6 3 k = k 47 := tg_R tT_44 rfl
theorem xg_44_4 {s : mjSt3} {k : Nat → mjU} : gR (mjW0 s) 44 6 4 k = k 48 := tg_R tT_44 rfl
theorem xg_44_5 {s : mjSt3} {k : Nat → mjU} : gR (mjW0 s) 44 6 5 k = k 49 := tg_R tT_44 rfl
theorem xg_44_6 {s : mjSt3} {k : Nat → mjU} : gR (mjW0 s) 44 6 6 k = k 50 := tg_R tT_44 rfl
theorem xg_44_7 {s : mjSt3} {k : Nat → mjU} : gR (mjW0 s) 44 6 7 k = k 51 := tg_R tT_44 rfl
theorem xg_44_8 {s : mjSt3} {k : Nat → mjU} : gR (mjW0 s) 44 6 8 k = k 52 := tg_R tT_44 rfl
theorem xg_44_9 {s : mjSt3} {k : Nat → mjU} : gR (mjW0 s) 44 6 9 k = k 53 := tg_R tT_44 rfl
theorem tT_45 : T_0[45]? = some (.inl (1, 385, true)) := by rfl
theorem xN_45 {s : mjSt3} {k : Int32 → mjU} : aN (mjW0 s) 45 k = k (Int32.ofNat 385) := ta_N tT_45 (by decide)
theorem xa_45 {s : mjSt3} {i : Int32} {k : Int64 → mjU} : aL (mjW0 s) 45 i k = if mj_in i 385 = true then k (s.2.1 45 i.toNatClampNeg) else none := ta_L tT_45
theorem xs_45 {s : mjSt3} {i : Int32} {x : Int64} {k : mjH → mjU} : sL (mjW0 s) 45 i x k = if mj_in i 385 = true then k (mjW0 (uL s 45 (vp_updL (s.2.1 45) i.toNatClampNeg x))) else none := ts_L tT_45
theorem tT_46 : T_0[46]? = some (.inl (0, 385, false)) := by rfl
theorem xN_46 {s : mjSt3} {k : Int32 → mjU} : aN (mjW0 s) 46 k = k (Int32.ofNat 385) := ta_N tT_46 (by decide)
theorem xa_46 {s : mjSt3} {i : Int32} {k : Int32 → mjU} : aI (mjW0 s) 46 i k = if mj_in i 385 = true then k (s.1 46 i.toNatClampNeg) else none := ta_I tT_46
theorem xs_46 {s : mjSt3} {i x : Int32} {k : mjH → mjU} : sI (mjW0 s) 46 i x k = if mj_in i 385 = true then k (mjW0 (uI s 46 (upd (s.1 46) i.toNatClampNeg x))) else none := ts_I tT_46
theorem tT_47 : T_0[47]? = some (.inl (0, 385, false)) := by rfl
theorem xN_47 {s : mjSt3} {k : Int32 → mjU} : aN (mjW0 s) 47 k = k (Int32.ofNat 385) := ta_N tT_47 (by decide)
theorem xa_47 {s : mjSt3} {i : Int32} {k : Int32 → mjU} : aI (mjW0 s) 47 i k = if mj_in i 385 = true then k (s.1 47 i.toNatClampNeg) else none := ta_I tT_47
theorem xs_47 {s : mjSt3} {i x : Int32} {k : mjH → mjU} : sI (mjW0 s) 47 i x k = if mj_in i 385 = true then k (mjW0 (uI s 47 (upd (s.1 47) i.toNatClampNeg x))) else none := ts_I tT_47
theorem tT_48 : T_0[48]? = some (.inl (3, 385, false)) := by rfl
theorem xN_48 {s : mjSt3} {k : Int32 → mjU} : aN (mjW0 s) 48 k = k (Int32.ofNat 385) := ta_N tT_48 (by decide)
theorem xa_48 {s : mjSt3} {i : Int32} {k : Int32 → mjU} : aB (mjW0 s) 48 i k = if mj_in i 385 = true then k (s.1 48 i.toNatClampNeg) else none := ta_B tT_48 rfl
theorem xs_48 {s : mjSt3} {i x : Int32} {k : mjH → mjU} : sB (mjW0 s) 48 i x k = if mj_in i 385 = true then k (mjW0 (uI s 48 (upd (s.1 48) i.toNatClampNeg (vp_nar .boolean x)))) else none := ts_z tT_48
theorem tT_49 : T_0[49]? = some (.inl (0, 385, false)) := by rfl
theorem xN_49 {s : mjSt3} {k : Int32 → mjU} : aN (mjW0 s) 49 k = k (Int32.ofNat 385) := ta_N tT_49 (by decide)
theorem xa_49 {s : mjSt3} {i : Int32} {k : Int32 → mjU} : aI (mjW0 s) 49 i k = if mj_in i 385 = true then k (s.1 49 i.toNatClampNeg) else none := ta_I tT_49
theorem xs_49 {s : mjSt3} {i x : Int32} {k : mjH → mjU} : sI (mjW0 s) 49 i x k = if mj_in i 385 = true then k (mjW0 (uI s 49 (upd (s.1 49) i.toNatClampNeg x))) else none := ts_I tT_49
theorem tT_50 : T_0[50]? = some (.inl (0, 385, false)) := by rfl
theorem xN_50 {s : mjSt3} {k : Int32 → mjU} : aN (mjW0 s) 50 k = k (Int32.ofNat 385) := ta_N tT_50 (by decide)
theorem xa_50 {s : mjSt3} {i : Int32} {k : Int32 → mjU} : aI (mjW0 s) 50 i k = if mj_in i 385 = true then k (s.1 50 i.toNatClampNeg) else none := ta_I tT_50
theorem xs_50 {s : mjSt3} {i x : Int32} {k : mjH → mjU} : sI (mjW0 s) 50 i x k = if mj_in i 385 = true then k (mjW0 (uI s 50 (upd (s.1 50) i.toNatClampNeg x))) else none := ts_I tT_50
theorem tT_51 : T_0[51]? = some (.inl (0, 2310, false)) := by rfl
theorem xN_51 {s : mjSt3} {k : Int32 → mjU} : aN (mjW0 s) 51 k = k (Int32.ofNat 2310) := ta_N tT_51 (by decide)
theorem xa_51 {s : mjSt3} {i : Int32} {k : Int32 → mjU} : aI (mjW0 s) 51 i k = if mj_in i 2310 = true then k (s.1 51 i.toNatClampNeg) else none := ta_I tT_51
theorem xs_51 {s : mjSt3} {i x : Int32} {k : mjH → mjU} : sI (mjW0 s) 51 i x k = if mj_in i 2310 = true then k (mjW0 (uI s 51 (upd (s.1 51) i.toNatClampNeg x))) else none := ts_I tT_51
theorem tT_52 : T_0[52]? = some (.inl (0, 385, false)) := by rfl
theorem xN_52 {s : mjSt3} {k : Int32 → mjU} : aN (mjW0 s) 52 k = k (Int32.ofNat 385) := ta_N tT_52 (by decide)
theorem xa_52 {s : mjSt3} {i : Int32} {k : Int32 → mjU} : aI (mjW0 s) 52 i k = if mj_in i 385 = true then k (s.1 52 i.toNatClampNeg) else none := ta_I tT_52
theorem xs_52 {s : mjSt3} {i x : Int32} {k : mjH → mjU} : sI (mjW0 s) 52 i x k = if mj_in i 385 = true then k (mjW0 (uI s 52 (upd (s.1 52) i.toNatClampNeg x))) else none := ts_I tT_52
theorem tT_53 : T_0[53]? = some (.inl (0, 385, false)) := by rfl
theorem xN_53 {s : mjSt3} {k : Int32 → mjU} : aN (mjW0 s) 53 k = k (Int32.ofNat 385) := ta_N tT_53 (by decide)
theorem xa_53 {s : mjSt3} {i : Int32} {k : Int32 → mjU} : aI (mjW0 s) 53 i k = if mj_in i 385 = true then k (s.1 53 i.toNatClampNeg) else none := ta_I tT_53
theorem xs_53 {s : mjSt3} {i x : Int32} {k : mjH → mjU} : sI (mjW0 s) 53 i x k = if mj_in i 385 = true then k (mjW0 (uI s 53 (upd (s.1 53) i.toNatClampNeg x))) else none := ts_I tT_53
theorem tT_54 : T_0[54]? = some (.inr (0, [.inr (.ref 55), .inr (.ref 56), .inr (.ref 57), .inl 0])) := by rfl
theorem xV_54 {s : mjSt3} {u : mjU} : rV (mjW0 s) 54 0 u = u := tr_V tT_54
theorem xg_54_0 {s : mjSt3} {k : Nat → mjU} : gR (mjW0 s) 54 0 0 k = k 55 := tg_R tT_54 rfl
theorem xg_54_1 {s : mjSt3} {k : Nat → mjU} : gR (mjW0 s) 54 0 1 k = k 56 := tg_R tT_54 rfl
theorem xg_54_2 {s : mjSt3} {k : Nat → mjU} : gR (mjW0 s) 54 0 2 k = k 57 := tg_R tT_54 rfl
theorem xg_54_3 {s : mjSt3} {k : Int32 → mjU} : gI (mjW0 s) 54 0 3 k = k (s.1 54 3) := tg_I tT_54 rfl
theorem xp_54_3 {s : mjSt3} {v : Int32} {k : mjH → mjU} : pI (mjW0 s) 54 0 3 v k = k (mjW0 (uI s 54 (upd (s.1 54) 3 v))) := tp_I tT_54 rfl
theorem tT_55 : T_0[55]? = some (.inl (0, 3100, false)) := by rfl
theorem xN_55 {s : mjSt3} {k : Int32 → mjU} : aN (mjW0 s) 55 k = k (Int32.ofNat 3100) := ta_N tT_55 (by decide)
theorem xa_55 {s : mjSt3} {i : Int32} {k : Int32 → mjU} : aI (mjW0 s) 55 i k = if mj_in i 3100 = true then k (s.1 55 i.toNatClampNeg) else none := ta_I tT_55
theorem xs_55 {s : mjSt3} {i x : Int32} {k : mjH → mjU} : sI (mjW0 s) 55 i x k = if mj_in i 3100 = true then k (mjW0 (uI s 55 (upd (s.1 55) i.toNatClampNeg x))) else none := ts_I tT_55
theorem tT_56 : T_0[56]? = some (.inl (0, 3100, false)) := by rfl
theorem xN_56 {s : mjSt3} {k : Int32 → mjU} : aN (mjW0 s) 56 k = k (Int32.ofNat 3100) := ta_N tT_56 (by decide)
theorem xa_56 {s : mjSt3} {i : Int32} {k : Int32 → mjU} : aI (mjW0 s) 56 i k = if mj_in i 3100 = true then k (s.1 56 i.toNatClampNeg) else none := ta_I tT_56
theorem xs_56 {s : mjSt3} {i x : Int32} {k : mjH → mjU} : sI (mjW0 s) 56 i x k = if mj_in i 3100 = true then k (mjW0 (uI s 56 (upd (s.1 56) i.toNatClampNeg x))) else none := ts_I tT_56
theorem tT_57 : T_0[57]? = some (.inl (0, 3100, false)) := by rfl
theorem xN_57 {s : mjSt3} {k : Int32 → mjU} : aN (mjW0 s) 57 k = k (Int32.ofNat 3100) := ta_N tT_57 (by decide)
theorem xa_57 {s : mjSt3} {i : Int32} {k : Int32 → mjU} : aI (mjW0 s) 57 i k = if mj_in i 3100 = true then k (s.1 57 i.toNatClampNeg) else none := ta_I tT_57
theorem xs_57 {s : mjSt3} {i x : Int32} {k : mjH → mjU} : sI (mjW0 s) 57 i x k = if mj_in i 3100 = true then k (mjW0 (uI s 57 (upd (s.1 57) i.toNatClampNeg x))) else none := ts_I tT_57
theorem tT_58 : T_0[58]? = some (.inr (9, [.inr (.ref 59), .inr (.ref 60), .inr (.ref 61), .inr (.ref 62), .inr (.ref 63), .inl 0, .inl 0, .inl 0, .inl 0])) := by rfl
theorem xV_58 {s : mjSt3} {u : mjU} : rV (mjW0 s) 58 9 u = u := tr_V tT_58
theorem xg_58_0 {s : mjSt3} {k : Nat → mjU} : gR (mjW0 s) 58 9 0 k = k 59 := tg_R tT_58 rfl
theorem xg_58_1 {s : mjSt3} {k : Nat → mjU} : gR (mjW0 s) 58 9 1 k = k 60 := tg_R tT_58 rfl
theorem xg_58_2 {s : mjSt3} {k : Nat → mjU} : gR (mjW0 s) 58 9 2 k = k 61 := tg_R tT_58 rfl
theorem xg_58_3 {s : mjSt3} {k : Nat → mjU} : gR (mjW0 s) 58 9 3 k = k 62 := tg_R tT_58 rfl
theorem xg_58_4 {s : mjSt3} {k : Nat → mjU} : gR (mjW0 s) 58 9 4 k = k 63 := tg_R tT_58 rfl
theorem xg_58_5 {s : mjSt3} {k : Int32 → mjU} : gI (mjW0 s) 58 9 5 k = k (s.1 58 5) := tg_I tT_58 rfl
theorem xp_58_5 {s : mjSt3} {v : Int32} {k : mjH → mjU} : pI (mjW0 s) 58 9 5 v k = k (mjW0 (uI s 58 (upd (s.1 58) 5 v))) := tp_I tT_58 rfl
theorem xg_58_6 {s : mjSt3} {k : Int32 → mjU} : gI (mjW0 s) 58 9 6 k = k (s.1 58 6) := tg_I tT_58 rfl
theorem xp_58_6 {s : mjSt3} {v : Int32} {k : mjH → mjU} : pI (mjW0 s) 58 9 6 v k = k (mjW0 (uI s 58 (upd (s.1 58) 6 v))) := tp_I tT_58 rfl
theorem xg_58_7 {s : mjSt3} {k : Int32 → mjU} : gI (mjW0 s) 58 9 7 k = k (s.1 58 7) := tg_I tT_58 rfl
theorem xp_58_7 {s : mjSt3} {v : Int32} {k : mjH → mjU} : pI (mjW0 s) 58 9 7 v k = k (mjW0 (uI s 58 (upd (s.1 58) 7 v))) := tp_I tT_58 rfl
theorem xg_58_8 {s : mjSt3} {k : Int32 → mjU} : gI (mjW0 s) 58 9 8 k = k (s.1 58 8) := tg_I tT_58 rfl
theorem xp_58_8 {s : mjSt3} {v : Int32} {k : mjH → mjU} : pI (mjW0 s) 58 9 8 v k = k (mjW0 (uI s 58 (upd (s.1 58) 8 v))) := tp_I tT_58 rfl
theorem tT_59 : T_0[59]? = some (.inl (1, 16, true)) := by rfl
theorem xN_59 {s : mjSt3} {k : Int32 → mjU} : aN (mjW0 s) 59 k = k (Int32.ofNat 16) := ta_N tT_59 (by decide)
theorem xa_59 {s : mjSt3} {i : Int32} {k : Int64 → mjU} : aL (mjW0 s) 59 i k = if mj_in i 16 = true then k (s.2.1 59 i.toNatClampNeg) else none := ta_L tT_59
theorem xs_59 {s : mjSt3} {i : Int32} {x : Int64} {k : mjH → mjU} : sL (mjW0 s) 59 i x k = if mj_in i 16 = true then k (mjW0 (uL s 59 (vp_updL (s.2.1 59) i.toNatClampNeg x))) else none := ts_L tT_59
theorem tT_60 : T_0[60]? = some (.inl (0, 3001, false)) := by rfl
theorem xN_60 {s : mjSt3} {k : Int32 → mjU} : aN (mjW0 s) 60 k = k (Int32.ofNat 3001) := ta_N tT_60 (by decide)
theorem xa_60 {s : mjSt3} {i : Int32} {k : Int32 → mjU} : aI (mjW0 s) 60 i k = if mj_in i 3001 = true then k (s.1 60 i.toNatClampNeg) else none := ta_I tT_60
theorem xs_60 {s : mjSt3} {i x : Int32} {k : mjH → mjU} : sI (mjW0 s) 60 i x k = if mj_in i 3001 = true then k (mjW0 (uI s 60 (upd (s.1 60) i.toNatClampNeg x))) else none := ts_I tT_60
theorem tT_61 : T_0[61]? = some (.inl (0, 3001, false)) := by rfl
theorem xN_61 {s : mjSt3} {k : Int32 → mjU} : aN (mjW0 s) 61 k = k (Int32.ofNat 3001) := ta_N tT_61 (by decide)
theorem xa_61 {s : mjSt3} {i : Int32} {k : Int32 → mjU} : aI (mjW0 s) 61 i k = if mj_in i 3001 = true then k (s.1 61 i.toNatClampNeg) else none := ta_I tT_61
theorem xs_61 {s : mjSt3} {i x : Int32} {k : mjH → mjU} : sI (mjW0 s) 61 i x k = if mj_in i 3001 = true then k (mjW0 (uI s 61 (upd (s.1 61) i.toNatClampNeg x))) else none := ts_I tT_61
theorem tT_62 : T_0[62]? = some (.inl (1, 3001, true)) := by rfl
theorem xN_62 {s : mjSt3} {k : Int32 → mjU} : aN (mjW0 s) 62 k = k (Int32.ofNat 3001) := ta_N tT_62 (by decide)
theorem xa_62 {s : mjSt3} {i : Int32} {k : Int64 → mjU} : aL (mjW0 s) 62 i k = if mj_in i 3001 = true then k (s.2.1 62 i.toNatClampNeg) else none := ta_L tT_62
theorem xs_62 {s : mjSt3} {i : Int32} {x : Int64} {k : mjH → mjU} : sL (mjW0 s) 62 i x k = if mj_in i 3001 = true then k (mjW0 (uL s 62 (vp_updL (s.2.1 62) i.toNatClampNeg x))) else none := ts_L tT_62
theorem tT_63 : T_0[63]? = some (.inl (0, 3001, false)) := by rfl
theorem xN_63 {s : mjSt3} {k : Int32 → mjU} : aN (mjW0 s) 63 k = k (Int32.ofNat 3001) := ta_N tT_63 (by decide)
theorem xa_63 {s : mjSt3} {i : Int32} {k : Int32 → mjU} : aI (mjW0 s) 63 i k = if mj_in i 3001 = true then k (s.1 63 i.toNatClampNeg) else none := ta_I tT_63
theorem xs_63 {s : mjSt3} {i x : Int32} {k : mjH → mjU} : sI (mjW0 s) 63 i x k = if mj_in i 3001 = true then k (mjW0 (uI s 63 (upd (s.1 63) i.toNatClampNeg x))) else none := ts_I tT_63
theorem tT_64 : T_0[64]? = some (.inr (8, [.inr (.ref 58), .inl 2, .inl 2, .inr (.ref 65), .inr (.ref 66), .inr (.ref 67), .inr (.ref 68), .inr (.ref 69), .inr (.ref 70), .inl 0, .inl 0])) := by rfl
theorem xV_64 {s : mjSt3} {u : mjU} : rV (mjW0 s) 64 8 u = u := tr_V tT_64
theorem xg_64_0 {s : mjSt3} {k : Nat → mjU} : gR (mjW0 s) 64 8 0 k = k 58 := tg_R tT_64 rfl
theorem xg_64_1 {s : mjSt3} {k : Nat → mjU} : gR (mjW0 s) 64 8 1 k = k (s.2.2 64 1) := tg_D tT_64 rfl
theorem xp_64_1 {s : mjSt3} {v : Nat} {k : mjH → mjU} : pR (mjW0 s) 64 8 1 v k = k (mjW0 (uR s 64 (updR (s.2.2 64) 1 v))) := tp_D tT_64 rfl
theorem xg_64_2 {s : mjSt3} {k : Nat → mjU} : gR (mjW0 s) 64 8 2 k = k (s.2.2 64 2) := tg_D tT_64 rfl
theorem xp_64_2 {s : mjSt3} {v : Nat} {k : mjH → mjU} : pR (mjW0 s) 64 8 2 v k = k (mjW0 (uR s 64 (updR (s.2.2 64) 2 v))) := tp_D tT_64 rfl
theorem xg_64_3 {s : mjSt3} {k : Nat → mjU} : gR (mjW0 s) 64 8 3 k = k 65 := tg_R tT_64 rfl
theorem xg_64_4 {s : mjSt3} {k : Nat → mjU} : gR (mjW0 s) 64 8 4 k = k 66 := tg_R tT_64 rfl
theorem xg_64_5 {s : mjSt3} {k : Nat → mjU} : gR (mjW0 s) 64 8 5 k = k 67 := tg_R tT_64 rfl
theorem xg_64_6 {s : mjSt3} {k : Nat → mjU} : gR (mjW0 s) 64 8 6 k = k 68 := tg_R tT_64 rfl
theorem xg_64_7 {s : mjSt3} {k : Nat → mjU} : gR (mjW0 s) 64 8 7 k = k 69 := tg_R tT_64 rfl
theorem xg_64_8 {s : mjSt3} {k : Nat → mjU} : gR (mjW0 s) 64 8 8 k = k 70 := tg_R tT_64 rfl
theorem xg_64_9 {s : mjSt3} {k : Int32 → mjU} : gI (mjW0 s) 64 8 9 k = k (s.1 64 9) := tg_I tT_64 rfl
theorem xp_64_9 {s : mjSt3} {v : Int32} {k : mjH → mjU} : pI (mjW0 s) 64 8 9 v k = k (mjW0 (uI s 64 (upd (s.1 64) 9 v))) := tp_I tT_64 rfl
theorem xg_64_10 {s : mjSt3} {k : Int32 → mjU} : gI (mjW0 s) 64 8 10 k = k (s.1 64 10) := tg_I tT_64 rfl
theorem xp_64_10 {s : mjSt3} {v : Int32} {k : mjH → mjU} : pI (mjW0 s) 64 8 10 v k = k (mjW0 (uI s 64 (upd (s.1 64) 10 v))) := tp_I tT_64 rfl
theorem tT_65 : T_0[65]? = some (.inl (0, 16, false)) := by rfl
theorem xN_65 {s : mjSt3} {k : Int32 → mjU} : aN (mjW0 s) 65 k = k (Int32.ofNat 16) := ta_N tT_65 (by decide)
theorem xa_65 {s : mjSt3} {i : Int32} {k : Int32 → mjU} : aI (mjW0 s) 65 i k = if mj_in i 16 = true then k (s.1 65 i.toNatClampNeg) else none := ta_I tT_65
theorem xs_65 {s : mjSt3} {i x : Int32} {k : mjH → mjU} : sI (mjW0 s) 65 i x k = if mj_in i 16 = true then k (mjW0 (uI s 65 (upd (s.1 65) i.toNatClampNeg x))) else none := ts_I tT_65
theorem tT_66 : T_0[66]? = some (.inl (0, 16, false)) := by rfl
theorem xN_66 {s : mjSt3} {k : Int32 → mjU} : aN (mjW0 s) 66 k = k (Int32.ofNat 16) := ta_N tT_66 (by decide)
theorem xa_66 {s : mjSt3} {i : Int32} {k : Int32 → mjU} : aI (mjW0 s) 66 i k = if mj_in i 16 = true then k (s.1 66 i.toNatClampNeg) else none := ta_I tT_66
theorem xs_66 {s : mjSt3} {i x : Int32} {k : mjH → mjU} : sI (mjW0 s) 66 i x k = if mj_in i 16 = true then k (mjW0 (uI s 66 (upd (s.1 66) i.toNatClampNeg x))) else none := ts_I tT_66
theorem tT_67 : T_0[67]? = some (.inl (0, 16, false)) := by rfl
theorem xN_67 {s : mjSt3} {k : Int32 → mjU} : aN (mjW0 s) 67 k = k (Int32.ofNat 16) := ta_N tT_67 (by decide)
theorem xa_67 {s : mjSt3} {i : Int32} {k : Int32 → mjU} : aI (mjW0 s) 67 i k = if mj_in i 16 = true then k (s.1 67 i.toNatClampNeg) else none := ta_I tT_67
theorem xs_67 {s : mjSt3} {i x : Int32} {k : mjH → mjU} : sI (mjW0 s) 67 i x k = if mj_in i 16 = true then k (mjW0 (uI s 67 (upd (s.1 67) i.toNatClampNeg x))) else none := ts_I tT_67
theorem tT_68 : T_0[68]? = some (.inl (0, 385, false)) := by rfl
theorem xN_68 {s : mjSt3} {k : Int32 → mjU} : aN (mjW0 s) 68 k = k (Int32.ofNat 385) := ta_N tT_68 (by decide)
theorem xa_68 {s : mjSt3} {i : Int32} {k : Int32 → mjU} : aI (mjW0 s) 68 i k = if mj_in i 385 = true then k (s.1 68 i.toNatClampNeg) else none := ta_I tT_68
theorem xs_68 {s : mjSt3} {i x : Int32} {k : mjH → mjU} : sI (mjW0 s) 68 i x k = if mj_in i 385 = true then k (mjW0 (uI s 68 (upd (s.1 68) i.toNatClampNeg x))) else none := ts_I tT_68
theorem tT_69 : T_0[69]? = some (.inl (0, 385, false)) := by rfl
theorem xN_69 {s : mjSt3} {k : Int32 → mjU} : aN (mjW0 s) 69 k = k (Int32.ofNat 385) := ta_N tT_69 (by decide)
theorem xa_69 {s : mjSt3} {i : Int32} {k : Int32 → mjU} : aI (mjW0 s) 69 i k = if mj_in i 385 = true then k (s.1 69 i.toNatClampNeg) else none := ta_I tT_69
theorem xs_69 {s : mjSt3} {i x : Int32} {k : mjH → mjU} : sI (mjW0 s) 69 i x k = if mj_in i 385 = true then k (mjW0 (uI s 69 (upd (s.1 69) i.toNatClampNeg x))) else none := ts_I tT_69
theorem tT_70 : T_0[70]? = some (.inl (0, 385, false)) := by rfl
theorem xN_70 {s : mjSt3} {k : Int32 → mjU} : aN (mjW0 s) 70 k = k (Int32.ofNat 385) := ta_N tT_70 (by decide)
theorem xa_70 {s : mjSt3} {i : Int32} {k : Int32 → mjU} : aI (mjW0 s) 70 i k = if mj_in i 385 = true then k (s.1 70 i.toNatClampNeg) else none := ta_I tT_70
theorem xs_70 {s : mjSt3} {i x : Int32} {k : mjH → mjU} : sI (mjW0 s) 70 i x k = if mj_in i 385 = true then k (mjW0 (uI s 70 (upd (s.1 70) i.toNatClampNeg x))) else none := ts_I tT_70
theorem tT_71 : T_0[71]? = some (.inr (4, [.inr (.ref 58), .inr (.ref 64), .inl 2, .inl 2, .inl 0, .inr (.ref 72), .inr (.ref 73), .inr (.ref 74)])) := by rfl
theorem xV_71 {s : mjSt3} {u : mjU} : rV (mjW0 s) 71 4 u = u := tr_V tT_71
theorem xg_71_0 {s : mjSt3} {k : Nat → mjU} : gR (mjW0 s) 71 4 0 k = k 58 := tg_R tT_71 rfl
theorem xg_71_1 {s : mjSt3} {k : Nat → mjU} : gR (mjW0 s) 71 4 1 k = k 64 := tg_R tT_71 rfl
theorem xg_71_2 {s : mjSt3} {k : Nat → mjU} : gR (mjW0 s) 71 4 2 k = k (s.2.2 71 2) := tg_D tT_71 rfl
theorem xp_71_2 {s : mjSt3} {v : Nat} {k : mjH → mjU} : pR (mjW0 s) 71 4 2 v k = k (mjW0 (uR s 71 (updR (s.2.2 71) 2 v))) := tp_D tT_71 rfl
theorem xg_71_3 {s : mjSt3} {k : Nat → mjU} : gR (mjW0 s) 71 4 3 k = k (s.2.2 71 3) := tg_D tT_71 rfl
theorem xp_71_3 {s : mjSt3} {v : Nat} {k : mjH → mjU} : pR (mjW0 s) 71 4 3 v k = k (mjW0 (uR s 71 (updR (s.2.2 71) 3 v))) := tp_D tT_71 rfl
theorem xg_71_4 {s : mjSt3} {k : Int32 → mjU} : gI (mjW0 s) 71 4 4 k = k (s.1 71 4) := tg_I tT_71 rfl
theorem xp_71_4 {s : mjSt3} {v : Int32} {k : mjH → mjU} (hv : (v == 0 || v == 1) = true) : pZ (mjW0 s) 71 4 4 v k = k (mjW0 (uI s 71 (upd (s.1 71) 4 v))) := tp_Z tT_71 rfl hv
theorem xg_71_5 {s : mjSt3} {k : Nat → mjU} : gR (mjW0 s) 71 4 5 k = k 72 := tg_R tT_71 rfl
theorem xg_71_6 {s : mjSt3} {k : Nat → mjU} : gR (mjW0 s) 71 4 6 k = k 73 := tg_R tT_71 rfl
theorem xg_71_7 {s : mjSt3} {k : Nat → mjU} : gR (mjW0 s) 71 4 7 k = k 74 := tg_R tT_71 rfl
theorem tT_72 : T_0[72]? = some (.inl (1, 16, true)) := by rfl
theorem xN_72 {s : mjSt3} {k : Int32 → mjU} : aN (mjW0 s) 72 k = k (Int32.ofNat 16) := ta_N tT_72 (by decide)
theorem xa_72 {s : mjSt3} {i : Int32} {k : Int64 → mjU} : aL (mjW0 s) 72 i k = if mj_in i 16 = true then k (s.2.1 72 i.toNatClampNeg) else none := ta_L tT_72
theorem xs_72 {s : mjSt3} {i : Int32} {x : Int64} {k : mjH → mjU} : sL (mjW0 s) 72 i x k = if mj_in i 16 = true then k (mjW0 (uL s 72 (vp_updL (s.2.1 72) i.toNatClampNeg x))) else none := ts_L tT_72
theorem tT_73 : T_0[73]? = some (.inl (1, 80, true)) := by rfl
theorem xN_73 {s : mjSt3} {k : Int32 → mjU} : aN (mjW0 s) 73 k = k (Int32.ofNat 80) := ta_N tT_73 (by decide)
theorem xa_73 {s : mjSt3} {i : Int32} {k : Int64 → mjU} : aL (mjW0 s) 73 i k = if mj_in i 80 = true then k (s.2.1 73 i.toNatClampNeg) else none := ta_L tT_73
theorem xs_73 {s : mjSt3} {i : Int32} {x : Int64} {k : mjH → mjU} : sL (mjW0 s) 73 i x k = if mj_in i 80 = true then k (mjW0 (uL s 73 (vp_updL (s.2.1 73) i.toNatClampNeg x))) else none := ts_L tT_73
theorem tT_74 : T_0[74]? = some (.inl (1, 6, true)) := by rfl
theorem xN_74 {s : mjSt3} {k : Int32 → mjU} : aN (mjW0 s) 74 k = k (Int32.ofNat 6) := ta_N tT_74 (by decide)
theorem xa_74 {s : mjSt3} {i : Int32} {k : Int64 → mjU} : aL (mjW0 s) 74 i k = if mj_in i 6 = true then k (s.2.1 74 i.toNatClampNeg) else none := ta_L tT_74
theorem xs_74 {s : mjSt3} {i : Int32} {x : Int64} {k : mjH → mjU} : sL (mjW0 s) 74 i x k = if mj_in i 6 = true then k (mjW0 (uL s 74 (vp_updL (s.2.1 74) i.toNatClampNeg x))) else none := ts_L tT_74
theorem tT_75 : T_0[75]? = some (.inr (1, [.inr (.ref 58), .inr (.ref 64), .inr (.ref 71), .inl 2, .inl 2, .inl 2, .inl 0, .inl 0, .inr (.ref 76), .inr (.ref 77), .inr (.ref 78), .inl 0, .inl 0, .inl 0, .inl 0, .inl 0, .inl 0])) := by rfl
theorem xV_75 {s : mjSt3} {u : mjU} : rV (mjW0 s) 75 1 u = u := tr_V tT_75
theorem xg_75_0 {s : mjSt3} {k : Nat → mjU} : gR (mjW0 s) 75 1 0 k = k 58 := tg_R tT_75 rfl
theorem xg_75_1 {s : mjSt3} {k : Nat → mjU} : gR (mjW0 s) 75 1 1 k = k 64 := tg_R tT_75 rfl
theorem xg_75_2 {s : mjSt3} {k : Nat → mjU} : gR (mjW0 s) 75 1 2 k = k 71 := tg_R tT_75 rfl
theorem xg_75_3 {s : mjSt3} {k : Nat → mjU} : gR (mjW0 s) 75 1 3 k = k (s.2.2 75 3) := tg_D tT_75 rfl
theorem xp_75_3 {s : mjSt3} {v : Nat} {k : mjH → mjU} : pR (mjW0 s) 75 1 3 v k = k (mjW0 (uR s 75 (updR (s.2.2 75) 3 v))) := tp_D tT_75 rfl
theorem xg_75_4 {s : mjSt3} {k : Nat → mjU} : gR (mjW0 s) 75 1 4 k = k (s.2.2 75 4) := tg_D tT_75 rfl
theorem xp_75_4 {s : mjSt3} {v : Nat} {k : mjH → mjU} : pR (mjW0 s) 75 1 4 v k = k (mjW0 (uR s 75 (updR (s.2.2 75) 4 v))) := tp_D tT_75 rfl
theorem xg_75_5 {s : mjSt3} {k : Nat → mjU} : gR (mjW0 s) 75 1 5 k = k (s.2.2 75 5) := tg_D tT_75 rfl
theorem xp_75_5 {s : mjSt3} {v : Nat} {k : mjH → mjU} : pR (mjW0 s) 75 1 5 v k = k (mjW0 (uR s 75 (updR (s.2.2 75) 5 v))) := tp_D tT_75 rfl
theorem xg_75_6 {s : mjSt3} {k : Int32 → mjU} : gI (mjW0 s) 75 1 6 k = k (s.1 75 6) := tg_I tT_75 rfl
theorem xp_75_6 {s : mjSt3} {v : Int32} {k : mjH → mjU} : pI (mjW0 s) 75 1 6 v k = k (mjW0 (uI s 75 (upd (s.1 75) 6 v))) := tp_I tT_75 rfl
theorem xg_75_7 {s : mjSt3} {k : Int32 → mjU} : gI (mjW0 s) 75 1 7 k = k (s.1 75 7) := tg_I tT_75 rfl
theorem xp_75_7 {s : mjSt3} {v : Int32} {k : mjH → mjU} : pI (mjW0 s) 75 1 7 v k = k (mjW0 (uI s 75 (upd (s.1 75) 7 v))) := tp_I tT_75 rfl
theorem xg_75_8 {s : mjSt3} {k : Nat → mjU} : gR (mjW0 s) 75 1 8 k = k 76 := tg_R tT_75 rfl
theorem xg_75_9 {s : mjSt3} {k : Nat → mjU} : gR (mjW0 s) 75 1 9 k = k 77 := tg_R tT_75 rfl
theorem xg_75_10 {s : mjSt3} {k : Nat → mjU} : gR (mjW0 s) 75 1 10 k = k 78 := tg_R tT_75 rfl
theorem xg_75_11 {s : mjSt3} {k : Int32 → mjU} : gI (mjW0 s) 75 1 11 k = k (s.1 75 11) := tg_I tT_75 rfl
theorem xp_75_11 {s : mjSt3} {v : Int32} {k : mjH → mjU} : pI (mjW0 s) 75 1 11 v k = k (mjW0 (uI s 75 (upd (s.1 75) 11 v))) := tp_I tT_75 rfl
theorem xg_75_12 {s : mjSt3} {k : Int32 → mjU} : gI (mjW0 s) 75 1 12 k = k (s.1 75 12) := tg_I tT_75 rfl
theorem xp_75_12 {s : mjSt3} {v : Int32} {k : mjH → mjU} : pI (mjW0 s) 75 1 12 v k = k (mjW0 (uI s 75 (upd (s.1 75) 12 v))) := tp_I tT_75 rfl
theorem xg_75_13 {s : mjSt3} {k : Int32 → mjU} : gI (mjW0 s) 75 1 13 k = k (s.1 75 13) := tg_I tT_75 rfl
theorem xp_75_13 {s : mjSt3} {v : Int32} {k : mjH → mjU} : pI (mjW0 s) 75 1 13 v k = k (mjW0 (uI s 75 (upd (s.1 75) 13 v))) := tp_I tT_75 rfl
theorem xg_75_14 {s : mjSt3} {k : Int32 → mjU} : gI (mjW0 s) 75 1 14 k = k (s.1 75 14) := tg_I tT_75 rfl
theorem xp_75_14 {s : mjSt3} {v : Int32} {k : mjH → mjU} : pI (mjW0 s) 75 1 14 v k = k (mjW0 (uI s 75 (upd (s.1 75) 14 v))) := tp_I tT_75 rfl
theorem xg_75_15 {s : mjSt3} {k : Int32 → mjU} : gI (mjW0 s) 75 1 15 k = k (s.1 75 15) := tg_I tT_75 rfl
theorem xp_75_15 {s : mjSt3} {v : Int32} {k : mjH → mjU} : pI (mjW0 s) 75 1 15 v k = k (mjW0 (uI s 75 (upd (s.1 75) 15 v))) := tp_I tT_75 rfl
theorem xg_75_16 {s : mjSt3} {k : Int32 → mjU} : gI (mjW0 s) 75 1 16 k = k (s.1 75 16) := tg_I tT_75 rfl
theorem xp_75_16 {s : mjSt3} {v : Int32} {k : mjH → mjU} : pI (mjW0 s) 75 1 16 v k = k (mjW0 (uI s 75 (upd (s.1 75) 16 v))) := tp_I tT_75 rfl
theorem tT_76 : T_0[76]? = some (.inl (1, 16, true)) := by rfl
theorem xN_76 {s : mjSt3} {k : Int32 → mjU} : aN (mjW0 s) 76 k = k (Int32.ofNat 16) := ta_N tT_76 (by decide)
theorem xa_76 {s : mjSt3} {i : Int32} {k : Int64 → mjU} : aL (mjW0 s) 76 i k = if mj_in i 16 = true then k (s.2.1 76 i.toNatClampNeg) else none := ta_L tT_76
theorem xs_76 {s : mjSt3} {i : Int32} {x : Int64} {k : mjH → mjU} : sL (mjW0 s) 76 i x k = if mj_in i 16 = true then k (mjW0 (uL s 76 (vp_updL (s.2.1 76) i.toNatClampNeg x))) else none := ts_L tT_76
theorem tT_77 : T_0[77]? = some (.inl (0, 16, false)) := by rfl
theorem xN_77 {s : mjSt3} {k : Int32 → mjU} : aN (mjW0 s) 77 k = k (Int32.ofNat 16) := ta_N tT_77 (by decide)
theorem xa_77 {s : mjSt3} {i : Int32} {k : Int32 → mjU} : aI (mjW0 s) 77 i k = if mj_in i 16 = true then k (s.1 77 i.toNatClampNeg) else none := ta_I tT_77
theorem xs_77 {s : mjSt3} {i x : Int32} {k : mjH → mjU} : sI (mjW0 s) 77 i x k = if mj_in i 16 = true then k (mjW0 (uI s 77 (upd (s.1 77) i.toNatClampNeg x))) else none := ts_I tT_77
theorem tT_78 : T_0[78]? = some (.inl (0, 16, false)) := by rfl
theorem xN_78 {s : mjSt3} {k : Int32 → mjU} : aN (mjW0 s) 78 k = k (Int32.ofNat 16) := ta_N tT_78 (by decide)
theorem xa_78 {s : mjSt3} {i : Int32} {k : Int32 → mjU} : aI (mjW0 s) 78 i k = if mj_in i 16 = true then k (s.1 78 i.toNatClampNeg) else none := ta_I tT_78
theorem xs_78 {s : mjSt3} {i x : Int32} {k : mjH → mjU} : sI (mjW0 s) 78 i x k = if mj_in i 16 = true then k (mjW0 (uI s 78 (upd (s.1 78) i.toNatClampNeg x))) else none := ts_I tT_78
theorem tT_79 : T_0[79]? = some (.inr (3, [.inr (.ref 80), .inr (.ref 81), .inl 0, .inl 0, .inl 0])) := by rfl
theorem xV_79 {s : mjSt3} {u : mjU} : rV (mjW0 s) 79 3 u = u := tr_V tT_79
theorem xg_79_0 {s : mjSt3} {k : Nat → mjU} : gR (mjW0 s) 79 3 0 k = k 80 := tg_R tT_79 rfl
theorem xg_79_1 {s : mjSt3} {k : Nat → mjU} : gR (mjW0 s) 79 3 1 k = k 81 := tg_R tT_79 rfl
theorem xg_79_2 {s : mjSt3} {k : Int32 → mjU} : gI (mjW0 s) 79 3 2 k = k (s.1 79 2) := tg_I tT_79 rfl
theorem xp_79_2 {s : mjSt3} {v : Int32} {k : mjH → mjU} : pI (mjW0 s) 79 3 2 v k = k (mjW0 (uI s 79 (upd (s.1 79) 2 v))) := tp_I tT_79 rfl
theorem xg_79_3 {s : mjSt3} {k : Int32 → mjU} : gI (mjW0 s) 79 3 3 k = k (s.1 79 3) := tg_I tT_79 rfl
theorem xp_79_3 {s : mjSt3} {v : Int32} {k : mjH → mjU} : pI (mjW0 s) 79 3 3 v k = k (mjW0 (uI s 79 (upd (s.1 79) 3 v))) := tp_I tT_79 rfl
theorem xg_79_4 {s : mjSt3} {k : Int32 → mjU} : gI (mjW0 s) 79 3 4 k = k (s.1 79 4) := tg_I tT_79 rfl
theorem xp_79_4 {s : mjSt3} {v : Int32} {k : mjH → mjU} : pI (mjW0 s) 79 3 4 v k = k (mjW0 (uI s 79 (upd (s.1 79) 4 v))) := tp_I tT_79 rfl
theorem tT_80 : T_0[80]? = some (.inl (0, 4000, false)) := by rfl
theorem xN_80 {s : mjSt3} {k : Int32 → mjU} : aN (mjW0 s) 80 k = k (Int32.ofNat 4000) := ta_N tT_80 (by decide)
theorem xa_80 {s : mjSt3} {i : Int32} {k : Int32 → mjU} : aI (mjW0 s) 80 i k = if mj_in i 4000 = true then k (s.1 80 i.toNatClampNeg) else none := ta_I tT_80
theorem xs_80 {s : mjSt3} {i x : Int32} {k : mjH → mjU} : sI (mjW0 s) 80 i x k = if mj_in i 4000 = true then k (mjW0 (uI s 80 (upd (s.1 80) i.toNatClampNeg x))) else none := ts_I tT_80
theorem tT_81 : T_0[81]? = some (.inl (0, 1335, false)) := by rfl
theorem xN_81 {s : mjSt3} {k : Int32 → mjU} : aN (mjW0 s) 81 k = k (Int32.ofNat 1335) := ta_N tT_81 (by decide)
theorem xa_81 {s : mjSt3} {i : Int32} {k : Int32 → mjU} : aI (mjW0 s) 81 i k = if mj_in i 1335 = true then k (s.1 81 i.toNatClampNeg) else none := ta_I tT_81
theorem xs_81 {s : mjSt3} {i x : Int32} {k : mjH → mjU} : sI (mjW0 s) 81 i x k = if mj_in i 1335 = true then k (mjW0 (uI s 81 (upd (s.1 81) i.toNatClampNeg x))) else none := ts_I tT_81
theorem tT_82 : T_0[82]? = some (.inr (5, [.inr (.ref 79), .inr (.ref 83), .inl 2, .inl 2, .inl 0, .inr (.ref 89), .inl 0, .inl 0, .inl 0, .inl 0, .inl 0, .inl 0, .inl 0, .inl 0, .inr (.ref 90)])) := by rfl
theorem xV_82 {s : mjSt3} {u : mjU} : rV (mjW0 s) 82 5 u = u := tr_V tT_82
theorem xg_82_0 {s : mjSt3} {k : Nat → mjU} : gR (mjW0 s) 82 5 0 k = k 79 := tg_R tT_82 rfl
theorem xg_82_1 {s : mjSt3} {k : Nat → mjU} : gR (mjW0 s) 82 5 1 k = k 83 := tg_R tT_82 rfl
theorem xg_82_2 {s : mjSt3} {k : Nat → mjU} : gR (mjW0 s) 82 5 2 k = k (s.2.2 82 2) := tg_D tT_82 rfl
theorem xp_82_2 {s : mjSt3} {v : Nat} {k : mjH → mjU} : pR (mjW0 s) 82 5 2 v k = k (mjW0 (uR s 82 (updR (s.2.2 82) 2 v))) := tp_D tT_82 rfl
theorem xg_82_3 {s : mjSt3} {k : Nat → mjU} : gR (mjW0 s) 82 5 3 k = k (s.2.2 82 3) := tg_D tT_82 rfl
theorem xp_82_3 {s : mjSt3} {v : Nat} {k : mjH → mjU} : pR (mjW0 s) 82 5 3 v k = k (mjW0 (uR s 82 (updR (s.2.2 82) 3 v))) := tp_D tT_82 rfl
theorem xg_82_4 {s : mjSt3} {k : Int32 → mjU} : gI (mjW0 s) 82 5 4 k = k (s.1 82 4) := tg_I tT_82 rfl
theorem xp_82_4 {s : mjSt3} {v : Int32} {k : mjH → mjU} : pI (mjW0 s) 82 5 4 v k = k (mjW0 (uI s 82 (upd (s.1 82) 4 v))) := tp_I tT_82 rfl
theorem xg_82_5 {s : mjSt3} {k : Nat → mjU} : gR (mjW0 s) 82 5 5 k = k 89 := tg_R tT_82 rfl
theorem xg_82_6 {s : mjSt3} {k : Int32 → mjU} : gI (mjW0 s) 82 5 6 k = k (s.1 82 6) := tg_I tT_82 rfl
theorem xp_82_6 {s : mjSt3} {v : Int32} {k : mjH → mjU} : pI (mjW0 s) 82 5 6 v k = k (mjW0 (uI s 82 (upd (s.1 82) 6 v))) := tp_I tT_82 rfl
theorem xg_82_7 {s : mjSt3} {k : Int32 → mjU} : gI (mjW0 s) 82 5 7 k = k (s.1 82 7) := tg_I tT_82 rfl
theorem xp_82_7 {s : mjSt3} {v : Int32} {k : mjH → mjU} : pI (mjW0 s) 82 5 7 v k = k (mjW0 (uI s 82 (upd (s.1 82) 7 v))) := tp_I tT_82 rfl
theorem xg_82_8 {s : mjSt3} {k : Int32 → mjU} : gI (mjW0 s) 82 5 8 k = k (s.1 82 8) := tg_I tT_82 rfl
theorem xp_82_8 {s : mjSt3} {v : Int32} {k : mjH → mjU} : pI (mjW0 s) 82 5 8 v k = k (mjW0 (uI s 82 (upd (s.1 82) 8 v))) := tp_I tT_82 rfl
theorem xg_82_9 {s : mjSt3} {k : Int32 → mjU} : gI (mjW0 s) 82 5 9 k = k (s.1 82 9) := tg_I tT_82 rfl
theorem xp_82_9 {s : mjSt3} {v : Int32} {k : mjH → mjU} : pI (mjW0 s) 82 5 9 v k = k (mjW0 (uI s 82 (upd (s.1 82) 9 v))) := tp_I tT_82 rfl
theorem xg_82_10 {s : mjSt3} {k : Int32 → mjU} : gI (mjW0 s) 82 5 10 k = k (s.1 82 10) := tg_I tT_82 rfl
theorem xp_82_10 {s : mjSt3} {v : Int32} {k : mjH → mjU} : pI (mjW0 s) 82 5 10 v k = k (mjW0 (uI s 82 (upd (s.1 82) 10 v))) := tp_I tT_82 rfl
theorem xg_82_11 {s : mjSt3} {k : Int32 → mjU} : gI (mjW0 s) 82 5 11 k = k (s.1 82 11) := tg_I tT_82 rfl
theorem xp_82_11 {s : mjSt3} {v : Int32} {k : mjH → mjU} : pI (mjW0 s) 82 5 11 v k = k (mjW0 (uI s 82 (upd (s.1 82) 11 v))) := tp_I tT_82 rfl
theorem xg_82_12 {s : mjSt3} {k : Int32 → mjU} : gI (mjW0 s) 82 5 12 k = k (s.1 82 12) := tg_I tT_82 rfl
theorem xp_82_12 {s : mjSt3} {v : Int32} {k : mjH → mjU} : pI (mjW0 s) 82 5 12 v k = k (mjW0 (uI s 82 (upd (s.1 82) 12 v))) := tp_I tT_82 rfl
theorem xg_82_13 {s : mjSt3} {k : Int32 → mjU} : gI (mjW0 s) 82 5 13 k = k (s.1 82 13) := tg_I tT_82 rfl
theorem xp_82_13 {s : mjSt3} {v : Int32} {k : mjH → mjU} : pI (mjW0 s) 82 5 13 v k = k (mjW0 (uI s 82 (upd (s.1 82) 13 v))) := tp_I tT_82 rfl
theorem xg_82_14 {s : mjSt3} {k : Nat → mjU} : gR (mjW0 s) 82 5 14 k = k 90 := tg_R tT_82 rfl
theorem tT_83 : T_0[83]? = some (.inr (2, [.inl 0, .inl 0, .inr (.ref 84), .inr (.ref 85), .inr (.ref 86), .inr (.ref 87), .inr (.ref 88)])) := by rfl
theorem xV_83 {s : mjSt3} {u : mjU} : rV (mjW0 s) 83 2 u = u := tr_V tT_83
theorem xg_83_0 {s : mjSt3} {k : Int32 → mjU} : gI (mjW0 s) 83 2 0 k = k (s.1 83 0) := tg_I tT_83 rfl
theorem xp_83_0 {s : mjSt3} {v : Int32} {k : mjH → mjU} : pI (mjW0 s) 83 2 0 v k = k (mjW0 (uI s 83 (upd (s.1 83) 0 v))) := tp_I tT_83 rfl
theorem xg_83_1 {s : mjSt3} {k : Int32 → mjU} : gI (mjW0 s) 83 2 1 k = k (s.1 83 1) := tg_I tT_83 rfl
theorem xp_83_1 {s : mjSt3} {v : Int32} {k : mjH → mjU} : pI (mjW0 s) 83 2 1 v k = k (mjW0 (uI s 83 (upd (s.1 83) 1 v))) := tp_I tT_83 rfl
theorem xg_83_2 {s : mjSt3} {k : Nat → mjU} : gR (mjW0 s) 83 2 2 k = k 84 := tg_R tT_83 rfl
theorem xg_83_3 {s : mjSt3} {k : Nat → mjU} : gR (mjW0 s) 83 2 3 k = k 85 := tg_R tT_83 rfl
theorem xg_83_4 {s : mjSt3} {k : Nat → mjU} : gR (mjW0 s) 83 2 4 k = k 86 := tg_R tT_83 rfl
theorem xg_83_5 {s : mjSt3} {k : Nat → mjU} : gR (mjW0 s) 83 2 5 k = k 87 := tg_R tT_83 rfl
theorem xg_83_6 {s : mjSt3} {k : Nat → mjU} : gR (mjW0 s) 83 2 6 k = k 88 := tg_R tT_83 rfl
theorem tT_84 : T_0[84]? = some (.inl (0, 40, false)) := by rfl
theorem xN_84 {s : mjSt3} {k : Int32 → mjU} : aN (mjW0 s) 84 k = k (Int32.ofNat 40) := ta_N tT_84 (by decide)
theorem xa_84 {s : mjSt3} {i : Int32} {k : Int32 → mjU} : aI (mjW0 s) 84 i k = if mj_in i 40 = true then k (s.1 84 i.toNatClampNeg) else none := ta_I tT_84
theorem xs_84 {s : mjSt3} {i x : Int32} {k : mjH → mjU} : sI (mjW0 s) 84 i x k = if mj_in i 40 = true then k (mjW0 (uI s 84 (upd (s.1 84) i.toNatClampNeg x))) else none := ts_I tT_84
theorem tT_85 : T_0[85]? = some (.inl (0, 40, false)) := by rfl
theorem xN_85 {s : mjSt3} {k : Int32 → mjU} : aN (mjW0 s) 85 k = k (Int32.ofNat 40) := ta_N tT_85 (by decide)
theorem xa_85 {s : mjSt3} {i : Int32} {k : Int32 → mjU} : aI (mjW0 s) 85 i k = if mj_in i 40 = true then k (s.1 85 i.toNatClampNeg) else none := ta_I tT_85
theorem xs_85 {s : mjSt3} {i x : Int32} {k : mjH → mjU} : sI (mjW0 s) 85 i x k = if mj_in i 40 = true then k (mjW0 (uI s 85 (upd (s.1 85) i.toNatClampNeg x))) else none := ts_I tT_85
theorem tT_86 : T_0[86]? = some (.inl (0, 40, false)) := by rfl
theorem xN_86 {s : mjSt3} {k : Int32 → mjU} : aN (mjW0 s) 86 k = k (Int32.ofNat 40) := ta_N tT_86 (by decide)
theorem xa_86 {s : mjSt3} {i : Int32} {k : Int32 → mjU} : aI (mjW0 s) 86 i k = if mj_in i 40 = true then k (s.1 86 i.toNatClampNeg) else none := ta_I tT_86
theorem xs_86 {s : mjSt3} {i x : Int32} {k : mjH → mjU} : sI (mjW0 s) 86 i x k = if mj_in i 40 = true then k (mjW0 (uI s 86 (upd (s.1 86) i.toNatClampNeg x))) else none := ts_I tT_86
theorem tT_87 : T_0[87]? = some (.inl (0, 40, false)) := by rfl
theorem xN_87 {s : mjSt3} {k : Int32 → mjU} : aN (mjW0 s) 87 k = k (Int32.ofNat 40) := ta_N tT_87 (by decide)
theorem xa_87 {s : mjSt3} {i : Int32} {k : Int32 → mjU} : aI (mjW0 s) 87 i k = if mj_in i 40 = true then k (s.1 87 i.toNatClampNeg) else none := ta_I tT_87
theorem xs_87 {s : mjSt3} {i x : Int32} {k : mjH → mjU} : sI (mjW0 s) 87 i x k = if mj_in i 40 = true then k (mjW0 (uI s 87 (upd (s.1 87) i.toNatClampNeg x))) else none := ts_I tT_87
theorem tT_88 : T_0[88]? = some (.inl (0, 640, false)) := by rfl
theorem xN_88 {s : mjSt3} {k : Int32 → mjU} : aN (mjW0 s) 88 k = k (Int32.ofNat 640) := ta_N tT_88 (by decide)
theorem xa_88 {s : mjSt3} {i : Int32} {k : Int32 → mjU} : aI (mjW0 s) 88 i k = if mj_in i 640 = true then k (s.1 88 i.toNatClampNeg) else none := ta_I tT_88
theorem xs_88 {s : mjSt3} {i x : Int32} {k : mjH → mjU} : sI (mjW0 s) 88 i x k = if mj_in i 640 = true then k (mjW0 (uI s 88 (upd (s.1 88) i.toNatClampNeg x))) else none := ts_I tT_88
theorem tT_89 : T_0[89]? = some (.inl (0, 5120, false)) := by rfl
theorem xN_89 {s : mjSt3} {k : Int32 → mjU} : aN (mjW0 s) 89 k = k (Int32.ofNat 5120) := ta_N tT_89 (by decide)
theorem xa_89 {s : mjSt3} {i : Int32} {k : Int32 → mjU} : aI (mjW0 s) 89 i k = if mj_in i 5120 = true then k (s.1 89 i.toNatClampNeg) else none := ta_I tT_89
theorem xs_89 {s : mjSt3} {i x : Int32} {k : mjH → mjU} : sI (mjW0 s) 89 i x k = if mj_in i 5120 = true then k (mjW0 (uI s 89 (upd (s.1 89) i.toNatClampNeg x))) else none := ts_I tT_89
theorem tT_90 : T_0[90]? = some (.inl (0, 200, false)) := by rfl
theorem xN_90 {s : mjSt3} {k : Int32 → mjU} : aN (mjW0 s) 90 k = k (Int32.ofNat 200) := ta_N tT_90 (by decide)
theorem xa_90 {s : mjSt3} {i : Int32} {k : Int32 → mjU} : aI (mjW0 s) 90 i k = if mj_in i 200 = true then k (s.1 90 i.toNatClampNeg) else none := ta_I tT_90
theorem xs_90 {s : mjSt3} {i x : Int32} {k : mjH → mjU} : sI (mjW0 s) 90 i x k = if mj_in i 200 = true then k (mjW0 (uI s 90 (upd (s.1 90) i.toNatClampNeg x))) else none := ts_I tT_90
theorem tT_91 : T_0[91]? = some (.inr (10, [.inr (.ref 79), .inl 2, .inr (.ref 92), .inl 0, .inr (.ref 93), .inl 0, .inr (.ref 94), .inr (.ref 95), .inr (.ref 96), .inl 0])) := by rfl
theorem xV_91 {s : mjSt3} {u : mjU} : rV (mjW0 s) 91 10 u = u := tr_V tT_91
theorem xg_91_0 {s : mjSt3} {k : Nat → mjU} : gR (mjW0 s) 91 10 0 k = k 79 := tg_R tT_91 rfl
theorem xg_91_1 {s : mjSt3} {k : Nat → mjU} : gR (mjW0 s) 91 10 1 k = k (s.2.2 91 1) := tg_D tT_91 rfl
theorem xp_91_1 {s : mjSt3} {v : Nat} {k : mjH → mjU} : pR (mjW0 s) 91 10 1 v k = k (mjW0 (uR s 91 (updR (s.2.2 91) 1 v))) := tp_D tT_91 rfl
theorem xg_91_2 {s : mjSt3} {k : Nat → mjU} : gR (mjW0 s) 91 10 2 k = k 92 := tg_R tT_91 rfl
theorem xg_91_3 {s : mjSt3} {k : Int32 → mjU} : gI (mjW0 s) 91 10 3 k = k (s.1 91 3) := tg_I tT_91 rfl
theorem xp_91_3 {s : mjSt3} {v : Int32} {k : mjH → mjU} : pI (mjW0 s) 91 10 3 v k = k (mjW0 (uI s 91 (upd (s.1 91) 3 v))) := tp_I tT_91 rfl
theorem xg_91_4 {s : mjSt3} {k : Nat → mjU} : gR (mjW0 s) 91 10 4 k = k 93 := tg_R tT_91 rfl
theorem xg_91_5 {s : mjSt3} {k : Int32 → mjU} : gI (mjW0 s) 91 10 5 k = k (s.1 91 5) := tg_I tT_91 rfl
theorem xp_91_5 {s : mjSt3} {v : Int32} {k : mjH → mjU} (hv : (v == 0 || v == 1) = true) : pZ (mjW0 s) 91 10 5 v k = k (mjW0 (uI s 91 (upd (s.1 91) 5 v))) := tp_Z tT_91 rfl hv
theorem xg_91_6 {s : mjSt3} {k : Nat → mjU} : gR (mjW0 s) 91 10 6 k = k 94 := tg_R tT_91 rfl
theorem xg_91_7 {s : mjSt3} {k : Nat → mjU} : gR (mjW0 s) 91 10 7 k = k 95 := tg_R tT_91 rfl
theorem xg_91_8 {s : mjSt3} {k : Nat → mjU} : gR (mjW0 s) 91 10 8 k = k 96 := tg_R tT_91 rfl
theorem xg_91_9 {s : mjSt3} {k : Int32 → mjU} : gI (mjW0 s) 91 10 9 k = k (s.1 91 9) := tg_I tT_91 rfl
theorem xp_91_9 {s : mjSt3} {v : Int32} {k : mjH → mjU} : pI (mjW0 s) 91 10 9 v k = k (mjW0 (uI s 91 (upd (s.1 91) 9 v))) := tp_I tT_91 rfl
theorem tT_92 : T_0[92]? = some (.inl (0, 1335, false)) := by rfl
theorem xN_92 {s : mjSt3} {k : Int32 → mjU} : aN (mjW0 s) 92 k = k (Int32.ofNat 1335) := ta_N tT_92 (by decide)
theorem xa_92 {s : mjSt3} {i : Int32} {k : Int32 → mjU} : aI (mjW0 s) 92 i k = if mj_in i 1335 = true then k (s.1 92 i.toNatClampNeg) else none := ta_I tT_92
theorem xs_92 {s : mjSt3} {i x : Int32} {k : mjH → mjU} : sI (mjW0 s) 92 i x k = if mj_in i 1335 = true then k (mjW0 (uI s 92 (upd (s.1 92) i.toNatClampNeg x))) else none := ts_I tT_92
theorem tT_93 : T_0[93]? = some (.inl (0, 1335, false)) := by rfl
theorem xN_93 {s : mjSt3} {k : Int32 → mjU} : aN (mjW0 s) 93 k = k (Int32.ofNat 1335) := ta_N tT_93 (by decide)
theorem xa_93 {s : mjSt3} {i : Int32} {k : Int32 → mjU} : aI (mjW0 s) 93 i k = if mj_in i 1335 = true then k (s.1 93 i.toNatClampNeg) else none := ta_I tT_93
theorem xs_93 {s : mjSt3} {i x : Int32} {k : mjH → mjU} : sI (mjW0 s) 93 i x k = if mj_in i 1335 = true then k (mjW0 (uI s 93 (upd (s.1 93) i.toNatClampNeg x))) else none := ts_I tT_93
theorem tT_94 : T_0[94]? = some (.inl (0, 1335, false)) := by rfl
theorem xN_94 {s : mjSt3} {k : Int32 → mjU} : aN (mjW0 s) 94 k = k (Int32.ofNat 1335) := ta_N tT_94 (by decide)
theorem xa_94 {s : mjSt3} {i : Int32} {k : Int32 → mjU} : aI (mjW0 s) 94 i k = if mj_in i 1335 = true then k (s.1 94 i.toNatClampNeg) else none := ta_I tT_94
theorem xs_94 {s : mjSt3} {i x : Int32} {k : mjH → mjU} : sI (mjW0 s) 94 i x k = if mj_in i 1335 = true then k (mjW0 (uI s 94 (upd (s.1 94) i.toNatClampNeg x))) else none := ts_I tT_94
theorem tT_95 : T_0[95]? = some (.inl (0, 1335, false)) := by rfl
theorem xN_95 {s : mjSt3} {k : Int32 → mjU} : aN (mjW0 s) 95 k = k (Int32.ofNat 1335) := ta_N tT_95 (by decide)
theorem xa_95 {s : mjSt3} {i : Int32} {k : Int32 → mjU} : aI (mjW0 s) 95 i k = if mj_in i 1335 = true then k (s.1 95 i.toNatClampNeg) else none := ta_I tT_95
theorem xs_95 {s : mjSt3} {i x : Int32} {k : mjH → mjU} : sI (mjW0 s) 95 i x k = if mj_in i 1335 = true then k (mjW0 (uI s 95 (upd (s.1 95) i.toNatClampNeg x))) else none := ts_I tT_95
theorem tT_96 : T_0[96]? = some (.inl (0, 1335, false)) := by rfl
theorem xN_96 {s : mjSt3} {k : Int32 → mjU} : aN (mjW0 s) 96 k = k (Int32.ofNat 1335) := ta_N tT_96 (by decide)
theorem xa_96 {s : mjSt3} {i : Int32} {k : Int32 → mjU} : aI (mjW0 s) 96 i k = if mj_in i 1335 = true then k (s.1 96 i.toNatClampNeg) else none := ta_I tT_96
theorem xs_96 {s : mjSt3} {i x : Int32} {k : mjH → mjU} : sI (mjW0 s) 96 i x k = if mj_in i 1335 = true then k (mjW0 (uI s 96 (upd (s.1 96) i.toNatClampNeg x))) else none := ts_I tT_96
theorem tT_97 : T_0[97]? = some (.inr (12, [.inr (.ref 98), .inl 0, .inl 0, .inl 0, .inl 0, .inl 0, .inl 0, .inl 1, .inr (.ref 99), .inl 0, .inl 0, .inr (.ref 100), .inr (.ref 101), .inr (.ref 102), .inr (.ref 103), .inr (.ref 104), .inr (.ref 105), .inr (.ref 106), .inr (.ref 107), .inr (.ref 108), .inr (.ref 109), .inr (.ref 110), .inr (.ref 111), .inr (.ref 112), .inr (.ref 113), .inr (.ref 114), .inr (.ref 115), .inr (.ref 116), .inr (.ref 117), .inr (.ref 118), .inr (.ref 119), .inr (.ref 120), .inr (.ref 121), .inr (.ref 122), .inr (.ref 123), .inr (.ref 124), .inr (.ref 125), .inr (.ref 126), .inr (.ref 127), .inr (.ref 128), .inr (.ref 129), .inr (.ref 130), .inr (.ref 131), .inr (.ref 132), .inr (.ref 133), .inr (.ref 134), .inr (.ref 135), .inr (.ref 136), .inr (.ref 137), .inr (.ref 138), .inr (.ref 139), .inr (.ref 140), .inr (.ref 141), .inr (.ref 142), .inr (.ref 143), .inr (.ref 144), .inr (.ref 145), .inr (.ref 146), .inr (.ref 147), .inl 0, .inl 0, .inl 0, .inl 0, .inl 0, .inl 0, .inl 0, .inl 0, .inl 0, .inr (.ref 148), .inr (.ref 149), .inr (.ref 150), .inl 0, .inr (.ref 151), .inr (.ref 152), .inr (.ref 153), .inr (.ref 154), .inl 0, .inl 0, .inl 0, .inr (.ref 155), .inr (.ref 156), .inr (.ref 157), .inl 0, .inr (.ref 158), .inr (.ref 159), .inr (.ref 160), .inr (.ref 161), .inl 0, .inl 0, .inr (.ref 162), .inr (.ref 163), .inr (.ref 164), .inl 0, .inr (.ref 165), .inr (.ref 166), .inl 0, .inl 0, .inl 0, .inl 0, .inl 0, .inl 0, .inl 0, .inl 0, .inl 0, .inl 0, .inl 0, .inl 0, .inr (.ref 167), .inr (.ref 168), .inr (.ref 169), .inr (.ref 170), .inr (.ref 171), .inr (.ref 172), .inr (.ref 173), .inr (.ref 174), .inr (.ref 175), .inl 0, .inr (.ref 176), .inl 0, .inl 0, .inr (.ref 177), .inr (.ref 178), .inr (.ref 179), .inr (.ref 180), .inl 0, .inr (.ref 181), .inl 0, .inl 0, .inr (.ref 182), .inl 0, .inr (.ref 183), .inr (.ref 184), .inl 0, .inl 0, .inr (.ref 185), .inr (.ref 186), .inr (.ref 187)])) := by rfl
theorem xV_97 {s : mjSt3} {u : mjU} : rV (mjW0 s) 97 12 u = u := tr_V tT_97
theorem xg_97_0 {s : mjSt3} {k : Nat → mjU} : gR (mjW0 s) 97 12 0 k = k 98 := tg_R tT_97 rfl
theorem xg_97_1 {s : mjSt3} {k : Int32 → mjU} : gI (mjW0 s) 97 12 1 k = k (s.1 97 1) := tg_I tT_97 rfl
theorem xp_97_1 {s : mjSt3} {v : Int32} {k : mjH → mjU} : pI (mjW0 s) 97 12 1 v k = k (mjW0 (uI s 97 (upd (s.1 97) 1 v))) := tp_I tT_97 rfl
theorem xg_97_2 {s : mjSt3} {k : Int32 → mjU} : gI (mjW0 s) 97 12 2 k = k (s.1 97 2) := tg_I tT_97 rfl
theorem xp_97_2 {s : mjSt3} {v : Int32} {k : mjH → mjU} : pI (mjW0 s) 97 12 2 v k = k (mjW0 (uI s 97 (upd (s.1 97) 2 v))) := tp_I tT_97 rfl
theorem xg_97_3 {s : mjSt3} {k : Int32 → mjU} : gI (mjW0 s) 97 12 3 k = k (s.1 97 3) := tg_I tT_97 rfl
theorem xp_97_3 {s : mjSt3} {v : Int32} {k : mjH → mjU} : pI (mjW0 s) 97 12 3 v k = k (mjW0 (uI s 97 (upd (s.1 97) 3 v))) := tp_I tT_97 rfl
theorem xg_97_4 {s : mjSt3} {k : Int32 → mjU} : gI (mjW0 s) 97 12 4 k = k (s.1 97 4) := tg_I tT_97 rfl
theorem xp_97_4 {s : mjSt3} {v : Int32} {k : mjH → mjU} : pI (mjW0 s) 97 12 4 v k = k (mjW0 (uI s 97 (upd (s.1 97) 4 v))) := tp_I tT_97 rfl
theorem xg_97_5 {s : mjSt3} {k : Int32 → mjU} : gI (mjW0 s) 97 12 5 k = k (s.1 97 5) := tg_I tT_97 rfl
theorem xp_97_5 {s : mjSt3} {v : Int32} {k : mjH → mjU} : pI (mjW0 s) 97 12 5 v k = k (mjW0 (uI s 97 (upd (s.1 97) 5 v))) := tp_I tT_97 rfl
theorem xg_97_6 {s : mjSt3} {k : Int32 → mjU} : gI (mjW0 s) 97 12 6 k = k (s.1 97 6) := tg_I tT_97 rfl
theorem xp_97_6 {s : mjSt3} {v : Int32} {k : mjH → mjU} : pI (mjW0 s) 97 12 6 v k = k (mjW0 (uI s 97 (upd (s.1 97) 6 v))) := tp_I tT_97 rfl
theorem xg_97_7 {s : mjSt3} {k : Int64 → mjU} : gL (mjW0 s) 97 12 7 k = k (s.2.1 97 7) := tg_L tT_97 rfl
theorem xp_97_7 {s : mjSt3} {v : Int64} {k : mjH → mjU} : pL (mjW0 s) 97 12 7 v k = k (mjW0 (uL s 97 (vp_updL (s.2.1 97) 7 v))) := tp_L tT_97 rfl
theorem xg_97_8 {s : mjSt3} {k : Nat → mjU} : gR (mjW0 s) 97 12 8 k = k 99 := tg_R tT_97 rfl
theorem xg_97_9 {s : mjSt3} {k : Int32 → mjU} : gI (mjW0 s) 97 12 9 k = k (s.1 97 9) := tg_I tT_97 rfl
theorem xp_97_9 {s : mjSt3} {v : Int32} {k : mjH → mjU} : pI (mjW0 s) 97 12 9 v k = k (mjW0 (uI s 97 (upd (s.1 97) 9 v))) := tp_I tT_97 rfl
theorem xg_97_10 {s : mjSt3} {k : Int32 → mjU} : gI (mjW0 s) 97 12 10 k = k (s.1 97 10) := tg_I tT_97 rfl
theorem xp_97_10 {s : mjSt3} {v : Int32} {k : mjH → mjU} (hv : (v == 0 || v == 1) = true) : pZ (mjW0 s) 97 12 10 v k = k (mjW0 (uI s 97 (upd (s.1 97) 10 v))) := tp_Z tT_97 rfl hv
theorem xg_97_11 {s : mjSt3} {k : Nat → mjU} : gR (mjW0 s) 97 12 11 k = k 100 := tg_R tT_97 rfl
theorem xg_97_12 {s : mjSt3} {k : Nat → mjU} : gR (mjW0 s) 97 12 12 k = k 101 := tg_R tT_97 rfl
theorem xg_97_13 {s : mjSt3} {k : Nat → mjU} : gR (mjW0 s) 97 12 13 k = k 102 := tg_R tT_97 rfl
theorem xg_97_14 {s : mjSt3} {k : Nat → mjU} : gR (mjW0 s) 97 12 14 k = k 103 := tg_R tT_97 rfl
theorem xg_97_15 {s : mjSt3} {k : Nat → mjU} : gR (mjW0 s) 97 12 15 k = k 104 := tg_R tT_97 rfl
theorem xg_97_16 {s : mjSt3} {k : Nat → mjU} : gR (mjW0 s) 97 12 16 k = k 105 := tg_R tT_97 rfl
theorem xg_97_17 {s : mjSt3} {k : Nat → mjU} : gR (mjW0 s) 97 12 17 k = k 106 := tg_R tT_97 rfl
theorem xg_97_18 {s : mjSt3} {k : Nat → mjU} : gR (mjW0 s) 97 12 18 k = k 107 := tg_R tT_97 rfl
theorem xg_97_19 {s : mjSt3} {k : Nat → mjU} : gR (mjW0 s) 97 12 19 k = k 108 := tg_R tT_97 rfl
theorem xg_97_20 {s : mjSt3} {k : Nat → mjU} : gR (mjW0 s) 97 12 20 k = k 109 := tg_R tT_97 rfl
theorem xg_97_21 {s : mjSt3} {k : Nat → mjU} : gR (mjW0 s) 97 12 21 k = k 110 := tg_R tT_97 rfl
theorem xg_97_22 {s : mjSt3} {k : Nat → mjU} : gR (mjW0 s) 97 12 22 k = k 111 := tg_R tT_97 rfl
theorem xg_97_23 {s : mjSt3} {k : Nat → mjU} : gR (mjW0 s) 97 12 23 k = k 112 := tg_R tT_97 rfl
theorem xg_97_24 {s : mjSt3} {k : Nat → mjU} : gR (mjW0 s) 97 12 24 k = k 113 := tg_R tT_97 rfl
theorem xg_97_25 {s : mjSt3} {k : Nat → mjU} : gR (mjW0 s) 97 12 25 k = k 114 := tg_R tT_97 rfl
theorem xg_97_26 {s : mjSt3} {k : Nat → mjU} : gR (mjW0 s) 97 12 26 k = k 115 := tg_R tT_97 rfl
theorem xg_97_27 {s : mjSt3} {k : Nat → mjU} : gR (mjW0 s) 97 12 27 k = k 116 := tg_R tT_97 rfl
theorem xg_97_28 {s : mjSt3} {k : Nat → mjU} : gR (mjW0 s) 97 12 28 k = k 117 := tg_R tT_97 rfl
theorem xg_97_29 {s : mjSt3} {k : Nat → mjU} : gR (mjW0 s) 97 12 29 k = k 118 := tg_R tT_97 rfl
theorem xg_97_30 {s : mjSt3} {k : Nat → mjU} : gR (mjW0 s) 97 12 30 k = k 119 := tg_R tT_97 rfl
theorem xg_97_31 {s : mjSt3} {k : Nat → mjU} : gR (mjW0 s) 97 12 31 k = k 120 := tg_R tT_97 rfl
theorem xg_97_32 {s : mjSt3} {k : Nat → mjU} : gR (mjW0 s) 97 12 32 k = k 121 := tg_R tT_97 rfl
theorem xg_97_33 {s : mjSt3} {k : Nat → mjU} : gR (mjW0 s) 97 12 33 k = k 122 := tg_R tT_97 rfl
theorem xg_97_34 {s : mjSt3} {k : Nat → mjU} : gR (mjW0 s) 97 12 34 k = k 123 := tg_R tT_97 rfl
theorem xg_97_35 {s : mjSt3} {k : Nat → mjU} : gR (mjW0 s) 97 12 35 k = k 124 := tg_R tT_97 rfl
theorem xg_97_36 {s : mjSt3} {k : Nat → mjU} : gR (mjW0 s) 97 12 36 k = k 125 := tg_R tT_97 rfl
theorem xg_97_37 {s : mjSt3} {k : Nat → mjU} : gR (mjW0 s) 97 12 37 k = k 126 := tg_R tT_97 rfl
theorem xg_97_38 {s : mjSt3} {k : Nat → mjU} : gR (mjW0 s) 97 12 38 k = k 127 := tg_R tT_97 rfl
theorem xg_97_39 {s : mjSt3} {k : Nat → mjU} : gR (mjW0 s) 97 12 39 k = k 128 := tg_R tT_97 rfl
theorem xg_97_40 {s : mjSt3} {k : Nat → mjU} : gR (mjW0 s) 97 12 40 k = k 129 := tg_R tT_97 rfl
theorem xg_97_41 {s : mjSt3} {k : Nat → mjU} : gR (mjW0 s) 97 12 41 k = k 130 := tg_R tT_97 rfl
theorem xg_97_42 {s : mjSt3} {k : Nat → mjU} : gR (mjW0 s) 97 12 42 k = k 131 := tg_R tT_97 rfl
theorem xg_97_43 {s : mjSt3} {k : Nat → mjU} : gR (mjW0 s) 97 12 43 k = k 132 := tg_R tT_97 rfl
theorem xg_97_44 {s : mjSt3} {k : Nat → mjU} : gR (mjW0 s) 97 12 44 k = k 133 := tg_R tT_97 rfl
theorem xg_97_45 {s : mjSt3} {k : Nat → mjU} : gR (mjW0 s) 97 12 45 k = k 134 := tg_R tT_97 rfl
theorem xg_97_46 {s : mjSt3} {k : Nat → mjU} : gR (mjW0 s) 97 12 46 k = k 135 := tg_R tT_97 rfl
theorem xg_97_47 {s : mjSt3} {k : Nat → mjU} : gR (mjW0 s) 97 12 47 k = k 136 := tg_R tT_97 rfl
theorem xg_97_48 {s : mjSt3} {k : Nat → mjU} : gR (mjW0 s) 97 12 48 k = k 137 := tg_R tT_97 rfl
theorem xg_97_49 {s : mjSt3} {k : Nat → mjU} : gR (mjW0 s) 97 12 49 k = k 138 := tg_R tT_97 rfl
theorem xg_97_50 {s : mjSt3} {k : Nat → mjU} : gR (mjW0 s) 97 12 50 k = k 139 := tg_R tT_97 rfl
theorem xg_97_51 {s : mjSt3} {k : Nat → mjU} : gR (mjW0 s) 97 12 51 k = k 140 := tg_R tT_97 rfl
theorem xg_97_52 {s : mjSt3} {k : Nat → mjU} : gR (mjW0 s) 97 12 52 k = k 141 := tg_R tT_97 rfl
theorem xg_97_53 {s : mjSt3} {k : Nat → mjU} : gR (mjW0 s) 97 12 53 k = k 142 := tg_R tT_97 rfl
theorem xg_97_54 {s : mjSt3} {k : Nat → mjU} : gR (mjW0 s) 97 12 54 k = k 143 := tg_R tT_97 rfl
theorem xg_97_55 {s : mjSt3} {k : Nat → mjU} : gR (mjW0 s) 97 12 55 k = k 144 := tg_R tT_97 rfl
theorem xg_97_56 {s : mjSt3} {k : Nat → mjU} : gR (mjW0 s) 97 12 56 k = k 145 := tg_R tT_97 rfl
theorem xg_97_57 {s : mjSt3} {k : Nat → mjU} : gR (mjW0 s) 97 12 57 k = k 146 := tg_R tT_97 rfl
theorem xg_97_58 {s : mjSt3} {k : Nat → mjU} : gR (mjW0 s) 97 12 58 k = k 147 := tg_R tT_97 rfl
theorem xg_97_59 {s : mjSt3} {k : Int32 → mjU} : gI (mjW0 s) 97 12 59 k = k (s.1 97 59) := tg_I tT_97 rfl
theorem xp_97_59 {s : mjSt3} {v : Int32} {k : mjH → mjU} : pI (mjW0 s) 97 12 59 v k = k (mjW0 (uI s 97 (upd (s.1 97) 59 v))) := tp_I tT_97 rfl
theorem xg_97_60 {s : mjSt3} {k : Int32 → mjU} : gI (mjW0 s) 97 12 60 k = k (s.1 97 60) := tg_I tT_97 rfl
theorem xp_97_60 {s : mjSt3} {v : Int32} {k : mjH → mjU} : pI (mjW0 s) 97 12 60 v k = k (mjW0 (uI s 97 (upd (s.1 97) 60 v))) := tp_I tT_97 rfl
theorem xg_97_61 {s : mjSt3} {k : Int32 → mjU} : gI (mjW0 s) 97 12 61 k = k (s.1 97 61) := tg_I tT_97 rfl
theorem xp_97_61 {s : mjSt3} {v : Int32} {k : mjH → mjU} : pI (mjW0 s) 97 12 61 v k = k (mjW0 (uI s 97 (upd (s.1 97) 61 v))) := tp_I tT_97 rfl
theorem xg_97_62 {s : mjSt3} {k : Int32 → mjU} : gI (mjW0 s) 97 12 62 k = k (s.1 97 62) := tg_I tT_97 rfl
theorem xp_97_62 {s : mjSt3} {v : Int32} {k : mjH → mjU} : pI (mjW0 s) 97 12 62 v k = k (mjW0 (uI s 97 (upd (s.1 97) 62 v))) := tp_I tT_97 rfl
theorem xg_97_63 {s : mjSt3} {k : Int32 → mjU} : gI (mjW0 s) 97 12 63 k = k (s.1 97 63) := tg_I tT_97 rfl
theorem xp_97_63 {s : mjSt3} {v : Int32} {k : mjH → mjU} : pI (mjW0 s) 97 12 63 v k = k (mjW0 (uI s 97 (upd (s.1 97) 63 v))) := tp_I tT_97 rfl
theorem xg_97_64 {s : mjSt3} {k : Int32 → mjU} : gI (mjW0 s) 97 12 64 k = k (s.1 97 64) := tg_I tT_97 rfl
theorem xp_97_64 {s : mjSt3} {v : Int32} {k : mjH → mjU} : pI (mjW0 s) 97 12 64 v k = k (mjW0 (uI s 97 (upd (s.1 97) 64 v))) := tp_I tT_97 rfl
theorem xg_97_65 {s : mjSt3} {k : Int32 → mjU} : gI (mjW0 s) 97 12 65 k = k (s.1 97 65) := tg_I tT_97 rfl
theorem xp_97_65 {s : mjSt3} {v : Int32} {k : mjH → mjU} : pI (mjW0 s) 97 12 65 v k = k (mjW0 (uI s 97 (upd (s.1 97) 65 v))) := tp_I tT_97 rfl
theorem xg_97_66 {s : mjSt3} {k : Int32 → mjU} : gI (mjW0 s) 97 12 66 k = k (s.1 97 66) := tg_I tT_97 rfl
theorem xp_97_66 {s : mjSt3} {v : Int32} {k : mjH → mjU} : pI (mjW0 s) 97 12 66 v k = k (mjW0 (uI s 97 (upd (s.1 97) 66 v))) := tp_I tT_97 rfl
theorem xg_97_67 {s : mjSt3} {k : Int32 → mjU} : gI (mjW0 s) 97 12 67 k = k (s.1 97 67) := tg_I tT_97 rfl
theorem xp_97_67 {s : mjSt3} {v : Int32} {k : mjH → mjU} : pI (mjW0 s) 97 12 67 v k = k (mjW0 (uI s 97 (upd (s.1 97) 67 v))) := tp_I tT_97 rfl
theorem xg_97_68 {s : mjSt3} {k : Nat → mjU} : gR (mjW0 s) 97 12 68 k = k 148 := tg_R tT_97 rfl
theorem xg_97_69 {s : mjSt3} {k : Nat → mjU} : gR (mjW0 s) 97 12 69 k = k 149 := tg_R tT_97 rfl
theorem xg_97_70 {s : mjSt3} {k : Nat → mjU} : gR (mjW0 s) 97 12 70 k = k 150 := tg_R tT_97 rfl
theorem xg_97_71 {s : mjSt3} {k : Int32 → mjU} : gI (mjW0 s) 97 12 71 k = k (s.1 97 71) := tg_I tT_97 rfl
theorem xp_97_71 {s : mjSt3} {v : Int32} {k : mjH → mjU} : pI (mjW0 s) 97 12 71 v k = k (mjW0 (uI s 97 (upd (s.1 97) 71 v))) := tp_I tT_97 rfl
theorem xg_97_72 {s : mjSt3} {k : Nat → mjU} : gR (mjW0 s) 97 12 72 k = k 151 := tg_R tT_97 rfl
theorem xg_97_73 {s : mjSt3} {k : Nat → mjU} : gR (mjW0 s) 97 12 73 k = k 152 := tg_R tT_97 rfl
theorem xg_97_74 {s : mjSt3} {k : Nat → mjU} : gR (mjW0 s) 97 12 74 k = k 153 := tg_R tT_97 rfl
theorem xg_97_75 {s : mjSt3} {k : Nat → mjU} : gR (mjW0 s) 97 12 75 k = k 154 := tg_R tT_97 rfl
theorem xg_97_76 {s : mjSt3} {k : Int32 → mjU} : gI (mjW0 s) 97 12 76 k = k (s.1 97 76) := tg_I tT_97 rfl
theorem xp_97_76 {s : mjSt3} {v : Int32} {k : mjH → mjU} : pI (mjW0 s) 97 12 76 v k = k (mjW0 (uI s 97 (upd (s.1 97) 76 v))) := tp_I tT_97 rfl
theorem xg_97_77 {s : mjSt3} {k : Int32 → mjU} : gI (mjW0 s) 97 12 77 k = k (s.1 97 77) := tg_I tT_97 rfl
theorem xp_97_77 {s : mjSt3} {v : Int32} {k : mjH → mjU} : pI (mjW0 s) 97 12 77 v k = k (mjW0 (uI s 97 (upd (s.1 97) 77 v))) := tp_I tT_97 rfl
theorem xg_97_78 {s : mjSt3} {k : Int32 → mjU} : gI (mjW0 s) 97 12 78 k = k (s.1 97 78) := tg_I tT_97 rfl
theorem xp_97_78 {s : mjSt3} {v : Int32} {k : mjH → mjU} : pI (mjW0 s) 97 12 78 v k = k (mjW0 (uI s 97 (upd (s.1 97) 78 v))) := tp_I tT_97 rfl
theorem xg_97_79 {s : mjSt3} {k : Nat → mjU} : gR (mjW0 s) 97 12 79 k = k 155 := tg_R tT_97 rfl
theorem xg_97_80 {s : mjSt3} {k : Nat → mjU} : gR (mjW0 s) 97 12 80 k = k 156 := tg_R tT_97 rfl
theorem xg_97_81 {s : mjSt3} {k : Nat → mjU} : gR (mjW0 s) 97 12 81 k = k 157 := tg_R tT_97 rfl
theorem xg_97_82 {s : mjSt3} {k : Int32 → mjU} : gI (mjW0 s) 97 12 82 k = k (s.1 97 82) := tg_I tT_97 rfl
theorem xp_97_82 {s : mjSt3} {v : Int32} {k : mjH → mjU} : pI (mjW0 s) 97 12 82 v k = k (mjW0 (uI s 97 (upd (s.1 97) 82 v))) := tp_I tT_97 rfl
theorem xg_97_83 {s : mjSt3} {k : Nat → mjU} : gR (mjW0 s) 97 12 83 k = k 158 := tg_R tT_97 rfl
theorem xg_97_84 {s : mjSt3} {k : Nat → mjU} : gR (mjW0 s) 97 12 84 k = k 159 := tg_R tT_97 rfl
theorem xg_97_85 {s : mjSt3} {k : Nat → mjU} : gR (mjW0 s) 97 12 85 k = k 160 := tg_R tT_97 rfl
theorem xg_97_86 {s : mjSt3} {k : Nat → mjU} : gR (mjW0 s) 97 12 86 k = k 161 := tg_R tT_97 rfl
theorem xg_97_87 {s : mjSt3} {k : Int32 → mjU} : gI (mjW0 s) 97 12 87 k = k (s.1 97 87) := tg_I tT_97 rfl
theorem xp_97_87 {s : mjSt3} {v : Int32} {k : mjH → mjU} : pI (mjW0 s) 97 12 87 v k = k (mjW0 (uI s 97 (upd (s.1 97) 87 v))) := tp_I tT_97 rfl
theorem xg_97_88 {s : mjSt3} {k : Int32 → mjU} : gI (mjW0 s) 97 12 88 k = k (s.1 97 88) := tg_I tT_97 rfl
theorem xp_97_88 {s : mjSt3} {v : Int32} {k : mjH → mjU} : pI (mjW0 s) 97 12 88 v k = k (mjW0 (uI s 97 (upd (s.1 97) 88 v))) := tp_I tT_97 rfl
theorem xg_97_89 {s : mjSt3} {k : Nat → mjU} : gR (mjW0 s) 97 12 89 k = k 162 := tg_R tT_97 rfl
theorem xg_97_90 {s : mjSt3} {k : Nat → mjU} : gR (mjW0 s) 97 12 90 k = k 163 := tg_R tT_97 rfl
theorem xg_97_91 {s : mjSt3} {k : Nat → mjU} : gR (mjW0 s) 97 12 91 k = k 164 := tg_R tT_97 rfl
theorem xg_97_92 {s : mjSt3} {k : Int32 → mjU} : gI (mjW0 s) 97 12 92 k = k (s.1 97 92) := tg_I tT_97 rfl
theorem xp_97_92 {s : mjSt3} {v : Int32} {k : mjH → mjU} : pI (mjW0 s) 97 12 92 v k = k (mjW0 (uI s 97 (upd (s.1 97) 92 v))) := tp_I tT_97 rfl
theorem xg_97_93 {s : mjSt3} {k : Nat → mjU} : gR (mjW0 s) 97 12 93 k = k 165 := tg_R tT_97 rfl
theorem xg_97_94 {s : mjSt3} {k : Nat → mjU} : gR (mjW0 s) 97 12 94 k = k 166 := tg_R tT_97 rfl
theorem xg_97_95 {s : mjSt3} {k : Int32 → mjU} : gI (mjW0 s) 97 12 95 k = k (s.1 97 95) := tg_I tT_97 rfl
theorem xp_97_95 {s : mjSt3} {v : Int32} {k : mjH → mjU} : pI (mjW0 s) 97 12 95 v k = k (mjW0 (uI s 97 (upd (s.1 97) 95 v))) := tp_I tT_97 rfl
theorem xg_97_96 {s : mjSt3} {k : Int32 → mjU} : gI (mjW0 s) 97 12 96 k = k (s.1 97 96) := tg_I tT_97 rfl
theorem xp_97_96 {s : mjSt3} {v : Int32} {k : mjH → mjU} : pI (mjW0 s) 97 12 96 v k = k (mjW0 (uI s 97 (upd (s.1 97) 96 v))) := tp_I tT_97 rfl
theorem xg_97_97 {s : mjSt3} {k : Int32 → mjU} : gI (mjW0 s) 97 12 97 k = k (s.1 97 97) := tg_I tT_97 rfl
theorem xp_97_97 {s : mjSt3} {v : Int32} {k : mjH → mjU} : pI (mjW0 s) 97 12 97 v k = k (mjW0 (uI s 97 (upd (s.1 97) 97 v))) := tp_I tT_97 rfl
theorem xg_97_98 {s : mjSt3} {k : Int32 → mjU} : gI (mjW0 s) 97 12 98 k = k (s.1 97 98) := tg_I tT_97 rfl
theorem xp_97_98 {s : mjSt3} {v : Int32} {k : mjH → mjU} : pI (mjW0 s) 97 12 98 v k = k (mjW0 (uI s 97 (upd (s.1 97) 98 v))) := tp_I tT_97 rfl
theorem xg_97_99 {s : mjSt3} {k : Int32 → mjU} : gI (mjW0 s) 97 12 99 k = k (s.1 97 99) := tg_I tT_97 rfl
theorem xp_97_99 {s : mjSt3} {v : Int32} {k : mjH → mjU} : pI (mjW0 s) 97 12 99 v k = k (mjW0 (uI s 97 (upd (s.1 97) 99 v))) := tp_I tT_97 rfl
theorem xg_97_100 {s : mjSt3} {k : Int32 → mjU} : gI (mjW0 s) 97 12 100 k = k (s.1 97 100) := tg_I tT_97 rfl
theorem xp_97_100 {s : mjSt3} {v : Int32} {k : mjH → mjU} : pI (mjW0 s) 97 12 100 v k = k (mjW0 (uI s 97 (upd (s.1 97) 100 v))) := tp_I tT_97 rfl
theorem xg_97_101 {s : mjSt3} {k : Int32 → mjU} : gI (mjW0 s) 97 12 101 k = k (s.1 97 101) := tg_I tT_97 rfl
theorem xp_97_101 {s : mjSt3} {v : Int32} {k : mjH → mjU} : pI (mjW0 s) 97 12 101 v k = k (mjW0 (uI s 97 (upd (s.1 97) 101 v))) := tp_I tT_97 rfl
theorem xg_97_102 {s : mjSt3} {k : Int32 → mjU} : gI (mjW0 s) 97 12 102 k = k (s.1 97 102) := tg_I tT_97 rfl
theorem xp_97_102 {s : mjSt3} {v : Int32} {k : mjH → mjU} : pI (mjW0 s) 97 12 102 v k = k (mjW0 (uI s 97 (upd (s.1 97) 102 v))) := tp_I tT_97 rfl
theorem xg_97_103 {s : mjSt3} {k : Int32 → mjU} : gI (mjW0 s) 97 12 103 k = k (s.1 97 103) := tg_I tT_97 rfl
theorem xp_97_103 {s : mjSt3} {v : Int32} {k : mjH → mjU} : pI (mjW0 s) 97 12 103 v k = k (mjW0 (uI s 97 (upd (s.1 97) 103 v))) := tp_I tT_97 rfl
theorem xg_97_104 {s : mjSt3} {k : Int32 → mjU} : gI (mjW0 s) 97 12 104 k = k (s.1 97 104) := tg_I tT_97 rfl
theorem xp_97_104 {s : mjSt3} {v : Int32} {k : mjH → mjU} : pI (mjW0 s) 97 12 104 v k = k (mjW0 (uI s 97 (upd (s.1 97) 104 v))) := tp_I tT_97 rfl
theorem xg_97_105 {s : mjSt3} {k : Int32 → mjU} : gI (mjW0 s) 97 12 105 k = k (s.1 97 105) := tg_I tT_97 rfl
theorem xp_97_105 {s : mjSt3} {v : Int32} {k : mjH → mjU} : pI (mjW0 s) 97 12 105 v k = k (mjW0 (uI s 97 (upd (s.1 97) 105 v))) := tp_I tT_97 rfl
theorem xg_97_106 {s : mjSt3} {k : Int32 → mjU} : gI (mjW0 s) 97 12 106 k = k (s.1 97 106) := tg_I tT_97 rfl
theorem xp_97_106 {s : mjSt3} {v : Int32} {k : mjH → mjU} : pI (mjW0 s) 97 12 106 v k = k (mjW0 (uI s 97 (upd (s.1 97) 106 v))) := tp_I tT_97 rfl
theorem xg_97_107 {s : mjSt3} {k : Nat → mjU} : gR (mjW0 s) 97 12 107 k = k 167 := tg_R tT_97 rfl
theorem xg_97_108 {s : mjSt3} {k : Nat → mjU} : gR (mjW0 s) 97 12 108 k = k 168 := tg_R tT_97 rfl
theorem xg_97_109 {s : mjSt3} {k : Nat → mjU} : gR (mjW0 s) 97 12 109 k = k 169 := tg_R tT_97 rfl
theorem xg_97_110 {s : mjSt3} {k : Nat → mjU} : gR (mjW0 s) 97 12 110 k = k 170 := tg_R tT_97 rfl
theorem xg_97_111 {s : mjSt3} {k : Nat → mjU} : gR (mjW0 s) 97 12 111 k = k 171 := tg_R tT_97 rfl
theorem xg_97_112 {s : mjSt3} {k : Nat → mjU} : gR (mjW0 s) 97 12 112 k = k 172 := tg_R tT_97 rfl
theorem xg_97_113 {s : mjSt3} {k : Nat → mjU} : gR (mjW0 s) 97 12 113 k = k 173 := tg_R tT_97 rfl
theorem xg_97_114 {s : mjSt3} {k : Nat → mjU} : gR (mjW0 s) 97 12 114 k = k 174 := tg_R tT_97 rfl
theorem xg_97_115 {s : mjSt3} {k : Nat → mjU} : gR (mjW0 s) 97 12 115 k = k 175 := tg_R tT_97 rfl
theorem xg_97_116 {s : mjSt3} {k : Int32 → mjU} : gI (mjW0 s) 97 12 116 k = k (s.1 97 116) := tg_I tT_97 rfl
theorem xp_97_116 {s : mjSt3} {v : Int32} {k : mjH → mjU} : pI (mjW0 s) 97 12 116 v k = k (mjW0 (uI s 97 (upd (s.1 97) 116 v))) := tp_I tT_97 rfl
theorem xg_97_117 {s : mjSt3} {k : Nat → mjU} : gR (mjW0 s) 97 12 117 k = k 176 := tg_R tT_97 rfl
theorem xg_97_118 {s : mjSt3} {k : Int32 → mjU} : gI (mjW0 s) 97 12 118 k = k (s.1 97 118) := tg_I tT_97 rfl
theorem xp_97_118 {s : mjSt3} {v : Int32} {k : mjH → mjU} : pI (mjW0 s) 97 12 118 v k = k (mjW0 (uI s 97 (upd (s.1 97) 118 v))) := tp_I tT_97 rfl
theorem xg_97_119 {s : mjSt3} {k : Int32 → mjU} : gI (mjW0 s) 97 12 119 k = k (s.1 97 119) := tg_I tT_97 rfl
theorem xp_97_119 {s : mjSt3} {v : Int32} {k : mjH → mjU} : pI (mjW0 s) 97 12 119 v k = k (mjW0 (uI s 97 (upd (s.1 97) 119 v))) := tp_I tT_97 rfl
theorem xg_97_120 {s : mjSt3} {k : Nat → mjU} : gR (mjW0 s) 97 12 120 k = k 177 := tg_R tT_97 rfl
theorem xg_97_121 {s : mjSt3} {k : Nat → mjU} : gR (mjW0 s) 97 12 121 k = k 178 := tg_R tT_97 rfl
theorem xg_97_122 {s : mjSt3} {k : Nat → mjU} : gR (mjW0 s) 97 12 122 k = k 179 := tg_R tT_97 rfl
theorem xg_97_123 {s : mjSt3} {k : Nat → mjU} : gR (mjW0 s) 97 12 123 k = k 180 := tg_R tT_97 rfl
theorem xg_97_124 {s : mjSt3} {k : Int32 → mjU} : gI (mjW0 s) 97 12 124 k = k (s.1 97 124) := tg_I tT_97 rfl
theorem xp_97_124 {s : mjSt3} {v : Int32} {k : mjH → mjU} : pI (mjW0 s) 97 12 124 v k = k (mjW0 (uI s 97 (upd (s.1 97) 124 v))) := tp_I tT_97 rfl
theorem xg_97_125 {s : mjSt3} {k : Nat → mjU} : gR (mjW0 s) 97 12 125 k = k 181 := tg_R tT_97 rfl
theorem xg_97_126 {s : mjSt3} {k : Int32 → mjU} : gI (mjW0 s) 97 12 126 k = k (s.1 97 126) := tg_I tT_97 rfl
theorem xp_97_126 {s : mjSt3} {v : Int32} {k : mjH → mjU} (hv : (v == 0 || v == 1) = true) : pZ (mjW0 s) 97 12 126 v k = k (mjW0 (uI s 97 (upd (s.1 97) 126 v))) := tp_Z tT_97 rfl hv
theorem xg_97_127 {s : mjSt3} {k : Int32 → mjU} : gI (mjW0 s) 97 12 127 k = k (s.1 97 127) := tg_I tT_97 rfl
theorem xp_97_127 {s : mjSt3} {v : Int32} {k : mjH → mjU} : pI (mjW0 s) 97 12 127 v k = k (mjW0 (uI s 97 (upd (s.1 97) 127 v))) := tp_I tT_97 rfl
theorem xg_97_128 {s : mjSt3} {k : Nat → mjU} : gR (mjW0 s) 97 12 128 k = k 182 := tg_R tT_97 rfl
theorem xg_97_129 {s : mjSt3} {k : Int32 → mjU} : gI (mjW0 s) 97 12 129 k = k (s.1 97 129) := tg_I tT_97 rfl
theorem xp_97_129 {s : mjSt3} {v : Int32} {k : mjH → mjU} (hv : (v == 0 || v == 1) = true) : pZ (mjW0 s) 97 12 129 v k = k (mjW0 (uI s 97 (upd (s.1 97) 129 v))) := tp_Z tT_97 rfl hv
theorem xg_97_130 {s : mjSt3} {k : Nat → mjU} : gR (mjW0 s) 97 12 130 k = k 183 := tg_R tT_97 rfl
theorem xg_97_131 {s : mjSt3} {k : Nat → mjU} : gR (mjW0 s) 97 12 131 k = k 184 := tg_R tT_97 rfl
theorem xg_97_132 {s : mjSt3} {k : Int32 → mjU} : gI (mjW0 s) 97 12 132 k = k (s.1 97 132) := tg_I tT_97 rfl
theorem xp_97_132 {s : mjSt3} {v : Int32} {k : mjH → mjU} : pI (mjW0 s) 97 12 132 v k = k (mjW0 (uI s 97 (upd (s.1 97) 132 v))) := tp_I tT_97 rfl
theorem xg_97_133 {s : mjSt3} {k : Int32 → mjU} : gI (mjW0 s) 97 12 133 k = k (s.1 97 133) := tg_I tT_97 rfl
theorem xp_97_133 {s : mjSt3} {v : Int32} {k : mjH → mjU} : pI (mjW0 s) 97 12 133 v k = k (mjW0 (uI s 97 (upd (s.1 97) 133 v))) := tp_I tT_97 rfl
theorem xg_97_134 {s : mjSt3} {k : Nat → mjU} : gR (mjW0 s) 97 12 134 k = k 185 := tg_R tT_97 rfl
theorem xg_97_135 {s : mjSt3} {k : Nat → mjU} : gR (mjW0 s) 97 12 135 k = k 186 := tg_R tT_97 rfl
theorem xg_97_136 {s : mjSt3} {k : Nat → mjU} : gR (mjW0 s) 97 12 136 k = k 187 := tg_R tT_97 rfl
theorem tT_98 : T_0[98]? = some (.inl (2, 3000, false)) := by rfl
theorem xN_98 {s : mjSt3} {k : Int32 → mjU} : aN (mjW0 s) 98 k = k (Int32.ofNat 3000) := ta_N tT_98 (by decide)
theorem xa_98 {s : mjSt3} {i : Int32} {k : Int32 → mjU} : aB (mjW0 s) 98 i k = if mj_in i 3000 = true then k (s.1 98 i.toNatClampNeg) else none := ta_B tT_98 rfl
theorem xs_98 {s : mjSt3} {i x : Int32} {k : mjH → mjU} : sB (mjW0 s) 98 i x k = if mj_in i 3000 = true then k (mjW0 (uI s 98 (upd (s.1 98) i.toNatClampNeg (vp_nar .byte x)))) else none := ts_b tT_98
theorem tT_99 : T_0[99]? = some (.inl (1, 17, true)) := by rfl
theorem xN_99 {s : mjSt3} {k : Int32 → mjU} : aN (mjW0 s) 99 k = k (Int32.ofNat 17) := ta_N tT_99 (by decide)
theorem xa_99 {s : mjSt3} {i : Int32} {k : Int64 → mjU} : aL (mjW0 s) 99 i k = if mj_in i 17 = true then k (s.2.1 99 i.toNatClampNeg) else none := ta_L tT_99
theorem xs_99 {s : mjSt3} {i : Int32} {x : Int64} {k : mjH → mjU} : sL (mjW0 s) 99 i x k = if mj_in i 17 = true then k (mjW0 (uL s 99 (vp_updL (s.2.1 99) i.toNatClampNeg x))) else none := ts_L tT_99
theorem tT_100 : T_0[100]? = some (.inl (0, 2, false)) := by rfl
theorem xN_100 {s : mjSt3} {k : Int32 → mjU} : aN (mjW0 s) 100 k = k (Int32.ofNat 2) := ta_N tT_100 (by decide)
theorem xa_100 {s : mjSt3} {i : Int32} {k : Int32 → mjU} : aI (mjW0 s) 100 i k = if mj_in i 2 = true then k (s.1 100 i.toNatClampNeg) else none := ta_I tT_100
theorem xs_100 {s : mjSt3} {i x : Int32} {k : mjH → mjU} : sI (mjW0 s) 100 i x k = if mj_in i 2 = true then k (mjW0 (uI s 100 (upd (s.1 100) i.toNatClampNeg x))) else none := ts_I tT_100
theorem tT_101 : T_0[101]? = some (.inl (1, 32, true)) := by rfl
theorem xN_101 {s : mjSt3} {k : Int32 → mjU} : aN (mjW0 s) 101 k = k (Int32.ofNat 32) := ta_N tT_101 (by decide)
theorem xa_101 {s : mjSt3} {i : Int32} {k : Int64 → mjU} : aL (mjW0 s) 101 i k = if mj_in i 32 = true then k (s.2.1 101 i.toNatClampNeg) else none := ta_L tT_101
theorem xs_101 {s : mjSt3} {i : Int32} {x : Int64} {k : mjH → mjU} : sL (mjW0 s) 101 i x k = if mj_in i 32 = true then k (mjW0 (uL s 101 (vp_updL (s.2.1 101) i.toNatClampNeg x))) else none := ts_L tT_101
theorem tT_102 : T_0[102]? = some (.inl (0, 32, false)) := by rfl
theorem xN_102 {s : mjSt3} {k : Int32 → mjU} : aN (mjW0 s) 102 k = k (Int32.ofNat 32) := ta_N tT_102 (by decide)
theorem xa_102 {s : mjSt3} {i : Int32} {k : Int32 → mjU} : aI (mjW0 s) 102 i k = if mj_in i 32 = true then k (s.1 102 i.toNatClampNeg) else none := ta_I tT_102
theorem xs_102 {s : mjSt3} {i x : Int32} {k : mjH → mjU} : sI (mjW0 s) 102 i x k = if mj_in i 32 = true then k (mjW0 (uI s 102 (upd (s.1 102) i.toNatClampNeg x))) else none := ts_I tT_102
theorem tT_103 : T_0[103]? = some (.inl (0, 32, false)) := by rfl
theorem xN_103 {s : mjSt3} {k : Int32 → mjU} : aN (mjW0 s) 103 k = k (Int32.ofNat 32) := ta_N tT_103 (by decide)
theorem xa_103 {s : mjSt3} {i : Int32} {k : Int32 → mjU} : aI (mjW0 s) 103 i k = if mj_in i 32 = true then k (s.1 103 i.toNatClampNeg) else none := ta_I tT_103
theorem xs_103 {s : mjSt3} {i x : Int32} {k : mjH → mjU} : sI (mjW0 s) 103 i x k = if mj_in i 32 = true then k (mjW0 (uI s 103 (upd (s.1 103) i.toNatClampNeg x))) else none := ts_I tT_103
theorem tT_104 : T_0[104]? = some (.inl (0, 32, false)) := by rfl
theorem xN_104 {s : mjSt3} {k : Int32 → mjU} : aN (mjW0 s) 104 k = k (Int32.ofNat 32) := ta_N tT_104 (by decide)
theorem xa_104 {s : mjSt3} {i : Int32} {k : Int32 → mjU} : aI (mjW0 s) 104 i k = if mj_in i 32 = true then k (s.1 104 i.toNatClampNeg) else none := ta_I tT_104
theorem xs_104 {s : mjSt3} {i x : Int32} {k : mjH → mjU} : sI (mjW0 s) 104 i x k = if mj_in i 32 = true then k (mjW0 (uI s 104 (upd (s.1 104) i.toNatClampNeg x))) else none := ts_I tT_104
theorem tT_105 : T_0[105]? = some (.inl (0, 32, false)) := by rfl
theorem xN_105 {s : mjSt3} {k : Int32 → mjU} : aN (mjW0 s) 105 k = k (Int32.ofNat 32) := ta_N tT_105 (by decide)
theorem xa_105 {s : mjSt3} {i : Int32} {k : Int32 → mjU} : aI (mjW0 s) 105 i k = if mj_in i 32 = true then k (s.1 105 i.toNatClampNeg) else none := ta_I tT_105
theorem xs_105 {s : mjSt3} {i x : Int32} {k : mjH → mjU} : sI (mjW0 s) 105 i x k = if mj_in i 32 = true then k (mjW0 (uI s 105 (upd (s.1 105) i.toNatClampNeg x))) else none := ts_I tT_105
theorem tT_106 : T_0[106]? = some (.inl (0, 32, false)) := by rfl
theorem xN_106 {s : mjSt3} {k : Int32 → mjU} : aN (mjW0 s) 106 k = k (Int32.ofNat 32) := ta_N tT_106 (by decide)
theorem xa_106 {s : mjSt3} {i : Int32} {k : Int32 → mjU} : aI (mjW0 s) 106 i k = if mj_in i 32 = true then k (s.1 106 i.toNatClampNeg) else none := ta_I tT_106
theorem xs_106 {s : mjSt3} {i x : Int32} {k : mjH → mjU} : sI (mjW0 s) 106 i x k = if mj_in i 32 = true then k (mjW0 (uI s 106 (upd (s.1 106) i.toNatClampNeg x))) else none := ts_I tT_106
theorem tT_107 : T_0[107]? = some (.inl (0, 32, false)) := by rfl
theorem xN_107 {s : mjSt3} {k : Int32 → mjU} : aN (mjW0 s) 107 k = k (Int32.ofNat 32) := ta_N tT_107 (by decide)
theorem xa_107 {s : mjSt3} {i : Int32} {k : Int32 → mjU} : aI (mjW0 s) 107 i k = if mj_in i 32 = true then k (s.1 107 i.toNatClampNeg) else none := ta_I tT_107
theorem xs_107 {s : mjSt3} {i x : Int32} {k : mjH → mjU} : sI (mjW0 s) 107 i x k = if mj_in i 32 = true then k (mjW0 (uI s 107 (upd (s.1 107) i.toNatClampNeg x))) else none := ts_I tT_107
theorem tT_108 : T_0[108]? = some (.inl (0, 32, false)) := by rfl
theorem xN_108 {s : mjSt3} {k : Int32 → mjU} : aN (mjW0 s) 108 k = k (Int32.ofNat 32) := ta_N tT_108 (by decide)
theorem xa_108 {s : mjSt3} {i : Int32} {k : Int32 → mjU} : aI (mjW0 s) 108 i k = if mj_in i 32 = true then k (s.1 108 i.toNatClampNeg) else none := ta_I tT_108
theorem xs_108 {s : mjSt3} {i x : Int32} {k : mjH → mjU} : sI (mjW0 s) 108 i x k = if mj_in i 32 = true then k (mjW0 (uI s 108 (upd (s.1 108) i.toNatClampNeg x))) else none := ts_I tT_108
theorem tT_109 : T_0[109]? = some (.inl (0, 32, false)) := by rfl
theorem xN_109 {s : mjSt3} {k : Int32 → mjU} : aN (mjW0 s) 109 k = k (Int32.ofNat 32) := ta_N tT_109 (by decide)
theorem xa_109 {s : mjSt3} {i : Int32} {k : Int32 → mjU} : aI (mjW0 s) 109 i k = if mj_in i 32 = true then k (s.1 109 i.toNatClampNeg) else none := ta_I tT_109
theorem xs_109 {s : mjSt3} {i x : Int32} {k : mjH → mjU} : sI (mjW0 s) 109 i x k = if mj_in i 32 = true then k (mjW0 (uI s 109 (upd (s.1 109) i.toNatClampNeg x))) else none := ts_I tT_109
theorem tT_110 : T_0[110]? = some (.inl (0, 32, false)) := by rfl
theorem xN_110 {s : mjSt3} {k : Int32 → mjU} : aN (mjW0 s) 110 k = k (Int32.ofNat 32) := ta_N tT_110 (by decide)
theorem xa_110 {s : mjSt3} {i : Int32} {k : Int32 → mjU} : aI (mjW0 s) 110 i k = if mj_in i 32 = true then k (s.1 110 i.toNatClampNeg) else none := ta_I tT_110
theorem xs_110 {s : mjSt3} {i x : Int32} {k : mjH → mjU} : sI (mjW0 s) 110 i x k = if mj_in i 32 = true then k (mjW0 (uI s 110 (upd (s.1 110) i.toNatClampNeg x))) else none := ts_I tT_110
theorem tT_111 : T_0[111]? = some (.inl (1, 160, true)) := by rfl
theorem xN_111 {s : mjSt3} {k : Int32 → mjU} : aN (mjW0 s) 111 k = k (Int32.ofNat 160) := ta_N tT_111 (by decide)
theorem xa_111 {s : mjSt3} {i : Int32} {k : Int64 → mjU} : aL (mjW0 s) 111 i k = if mj_in i 160 = true then k (s.2.1 111 i.toNatClampNeg) else none := ta_L tT_111
theorem xs_111 {s : mjSt3} {i : Int32} {x : Int64} {k : mjH → mjU} : sL (mjW0 s) 111 i x k = if mj_in i 160 = true then k (mjW0 (uL s 111 (vp_updL (s.2.1 111) i.toNatClampNeg x))) else none := ts_L tT_111
theorem tT_112 : T_0[112]? = some (.inl (0, 160, false)) := by rfl
theorem xN_112 {s : mjSt3} {k : Int32 → mjU} : aN (mjW0 s) 112 k = k (Int32.ofNat 160) := ta_N tT_112 (by decide)
theorem xa_112 {s : mjSt3} {i : Int32} {k : Int32 → mjU} : aI (mjW0 s) 112 i k = if mj_in i 160 = true then k (s.1 112 i.toNatClampNeg) else none := ta_I tT_112
theorem xs_112 {s : mjSt3} {i x : Int32} {k : mjH → mjU} : sI (mjW0 s) 112 i x k = if mj_in i 160 = true then k (mjW0 (uI s 112 (upd (s.1 112) i.toNatClampNeg x))) else none := ts_I tT_112
theorem tT_113 : T_0[113]? = some (.inl (1, 256, true)) := by rfl
theorem xN_113 {s : mjSt3} {k : Int32 → mjU} : aN (mjW0 s) 113 k = k (Int32.ofNat 256) := ta_N tT_113 (by decide)
theorem xa_113 {s : mjSt3} {i : Int32} {k : Int64 → mjU} : aL (mjW0 s) 113 i k = if mj_in i 256 = true then k (s.2.1 113 i.toNatClampNeg) else none := ta_L tT_113
theorem xs_113 {s : mjSt3} {i : Int32} {x : Int64} {k : mjH → mjU} : sL (mjW0 s) 113 i x k = if mj_in i 256 = true then k (mjW0 (uL s 113 (vp_updL (s.2.1 113) i.toNatClampNeg x))) else none := ts_L tT_113
theorem tT_114 : T_0[114]? = some (.inl (1, 256, true)) := by rfl
theorem xN_114 {s : mjSt3} {k : Int32 → mjU} : aN (mjW0 s) 114 k = k (Int32.ofNat 256) := ta_N tT_114 (by decide)
theorem xa_114 {s : mjSt3} {i : Int32} {k : Int64 → mjU} : aL (mjW0 s) 114 i k = if mj_in i 256 = true then k (s.2.1 114 i.toNatClampNeg) else none := ta_L tT_114
theorem xs_114 {s : mjSt3} {i : Int32} {x : Int64} {k : mjH → mjU} : sL (mjW0 s) 114 i x k = if mj_in i 256 = true then k (mjW0 (uL s 114 (vp_updL (s.2.1 114) i.toNatClampNeg x))) else none := ts_L tT_114
theorem tT_115 : T_0[115]? = some (.inl (0, 256, false)) := by rfl
theorem xN_115 {s : mjSt3} {k : Int32 → mjU} : aN (mjW0 s) 115 k = k (Int32.ofNat 256) := ta_N tT_115 (by decide)
theorem xa_115 {s : mjSt3} {i : Int32} {k : Int32 → mjU} : aI (mjW0 s) 115 i k = if mj_in i 256 = true then k (s.1 115 i.toNatClampNeg) else none := ta_I tT_115
theorem xs_115 {s : mjSt3} {i x : Int32} {k : mjH → mjU} : sI (mjW0 s) 115 i x k = if mj_in i 256 = true then k (mjW0 (uI s 115 (upd (s.1 115) i.toNatClampNeg x))) else none := ts_I tT_115
theorem tT_116 : T_0[116]? = some (.inl (0, 256, false)) := by rfl
theorem xN_116 {s : mjSt3} {k : Int32 → mjU} : aN (mjW0 s) 116 k = k (Int32.ofNat 256) := ta_N tT_116 (by decide)
theorem xa_116 {s : mjSt3} {i : Int32} {k : Int32 → mjU} : aI (mjW0 s) 116 i k = if mj_in i 256 = true then k (s.1 116 i.toNatClampNeg) else none := ta_I tT_116
theorem xs_116 {s : mjSt3} {i x : Int32} {k : mjH → mjU} : sI (mjW0 s) 116 i x k = if mj_in i 256 = true then k (mjW0 (uI s 116 (upd (s.1 116) i.toNatClampNeg x))) else none := ts_I tT_116
theorem tT_117 : T_0[117]? = some (.inl (0, 256, false)) := by rfl
theorem xN_117 {s : mjSt3} {k : Int32 → mjU} : aN (mjW0 s) 117 k = k (Int32.ofNat 256) := ta_N tT_117 (by decide)
theorem xa_117 {s : mjSt3} {i : Int32} {k : Int32 → mjU} : aI (mjW0 s) 117 i k = if mj_in i 256 = true then k (s.1 117 i.toNatClampNeg) else none := ta_I tT_117
theorem xs_117 {s : mjSt3} {i x : Int32} {k : mjH → mjU} : sI (mjW0 s) 117 i x k = if mj_in i 256 = true then k (mjW0 (uI s 117 (upd (s.1 117) i.toNatClampNeg x))) else none := ts_I tT_117
theorem tT_118 : T_0[118]? = some (.inl (0, 256, false)) := by rfl
theorem xN_118 {s : mjSt3} {k : Int32 → mjU} : aN (mjW0 s) 118 k = k (Int32.ofNat 256) := ta_N tT_118 (by decide)
theorem xa_118 {s : mjSt3} {i : Int32} {k : Int32 → mjU} : aI (mjW0 s) 118 i k = if mj_in i 256 = true then k (s.1 118 i.toNatClampNeg) else none := ta_I tT_118
theorem xs_118 {s : mjSt3} {i x : Int32} {k : mjH → mjU} : sI (mjW0 s) 118 i x k = if mj_in i 256 = true then k (mjW0 (uI s 118 (upd (s.1 118) i.toNatClampNeg x))) else none := ts_I tT_118
theorem tT_119 : T_0[119]? = some (.inl (3, 1568, false)) := by rfl
theorem xN_119 {s : mjSt3} {k : Int32 → mjU} : aN (mjW0 s) 119 k = k (Int32.ofNat 1568) := ta_N tT_119 (by decide)
theorem xa_119 {s : mjSt3} {i : Int32} {k : Int32 → mjU} : aB (mjW0 s) 119 i k = if mj_in i 1568 = true then k (s.1 119 i.toNatClampNeg) else none := ta_B tT_119 rfl
theorem xs_119 {s : mjSt3} {i x : Int32} {k : mjH → mjU} : sB (mjW0 s) 119 i x k = if mj_in i 1568 = true then k (mjW0 (uI s 119 (upd (s.1 119) i.toNatClampNeg (vp_nar .boolean x)))) else none := ts_z tT_119
theorem tT_120 : T_0[120]? = some (.inl (0, 2, false)) := by rfl
theorem xN_120 {s : mjSt3} {k : Int32 → mjU} : aN (mjW0 s) 120 k = k (Int32.ofNat 2) := ta_N tT_120 (by decide)
theorem xa_120 {s : mjSt3} {i : Int32} {k : Int32 → mjU} : aI (mjW0 s) 120 i k = if mj_in i 2 = true then k (s.1 120 i.toNatClampNeg) else none := ta_I tT_120
theorem xs_120 {s : mjSt3} {i x : Int32} {k : mjH → mjU} : sI (mjW0 s) 120 i x k = if mj_in i 2 = true then k (mjW0 (uI s 120 (upd (s.1 120) i.toNatClampNeg x))) else none := ts_I tT_120
theorem tT_121 : T_0[121]? = some (.inl (0, 2, false)) := by rfl
theorem xN_121 {s : mjSt3} {k : Int32 → mjU} : aN (mjW0 s) 121 k = k (Int32.ofNat 2) := ta_N tT_121 (by decide)
theorem xa_121 {s : mjSt3} {i : Int32} {k : Int32 → mjU} : aI (mjW0 s) 121 i k = if mj_in i 2 = true then k (s.1 121 i.toNatClampNeg) else none := ta_I tT_121
theorem xs_121 {s : mjSt3} {i x : Int32} {k : mjH → mjU} : sI (mjW0 s) 121 i x k = if mj_in i 2 = true then k (mjW0 (uI s 121 (upd (s.1 121) i.toNatClampNeg x))) else none := ts_I tT_121
theorem tT_122 : T_0[122]? = some (.inl (0, 2, false)) := by rfl
theorem xN_122 {s : mjSt3} {k : Int32 → mjU} : aN (mjW0 s) 122 k = k (Int32.ofNat 2) := ta_N tT_122 (by decide)
theorem xa_122 {s : mjSt3} {i : Int32} {k : Int32 → mjU} : aI (mjW0 s) 122 i k = if mj_in i 2 = true then k (s.1 122 i.toNatClampNeg) else none := ta_I tT_122
theorem xs_122 {s : mjSt3} {i x : Int32} {k : mjH → mjU} : sI (mjW0 s) 122 i x k = if mj_in i 2 = true then k (mjW0 (uI s 122 (upd (s.1 122) i.toNatClampNeg x))) else none := ts_I tT_122
theorem tT_123 : T_0[123]? = some (.inl (0, 2, false)) := by rfl
theorem xN_123 {s : mjSt3} {k : Int32 → mjU} : aN (mjW0 s) 123 k = k (Int32.ofNat 2) := ta_N tT_123 (by decide)
theorem xa_123 {s : mjSt3} {i : Int32} {k : Int32 → mjU} : aI (mjW0 s) 123 i k = if mj_in i 2 = true then k (s.1 123 i.toNatClampNeg) else none := ta_I tT_123
theorem xs_123 {s : mjSt3} {i x : Int32} {k : mjH → mjU} : sI (mjW0 s) 123 i x k = if mj_in i 2 = true then k (mjW0 (uI s 123 (upd (s.1 123) i.toNatClampNeg x))) else none := ts_I tT_123
theorem tT_124 : T_0[124]? = some (.inl (0, 800, false)) := by rfl
theorem xN_124 {s : mjSt3} {k : Int32 → mjU} : aN (mjW0 s) 124 k = k (Int32.ofNat 800) := ta_N tT_124 (by decide)
theorem xa_124 {s : mjSt3} {i : Int32} {k : Int32 → mjU} : aI (mjW0 s) 124 i k = if mj_in i 800 = true then k (s.1 124 i.toNatClampNeg) else none := ta_I tT_124
theorem xs_124 {s : mjSt3} {i x : Int32} {k : mjH → mjU} : sI (mjW0 s) 124 i x k = if mj_in i 800 = true then k (mjW0 (uI s 124 (upd (s.1 124) i.toNatClampNeg x))) else none := ts_I tT_124
theorem tT_125 : T_0[125]? = some (.inl (0, 800, false)) := by rfl
theorem xN_125 {s : mjSt3} {k : Int32 → mjU} : aN (mjW0 s) 125 k = k (Int32.ofNat 800) := ta_N tT_125 (by decide)
theorem xa_125 {s : mjSt3} {i : Int32} {k : Int32 → mjU} : aI (mjW0 s) 125 i k = if mj_in i 800 = true then k (s.1 125 i.toNatClampNeg) else none := ta_I tT_125
theorem xs_125 {s : mjSt3} {i x : Int32} {k : mjH → mjU} : sI (mjW0 s) 125 i x k = if mj_in i 800 = true then k (mjW0 (uI s 125 (upd (s.1 125) i.toNatClampNeg x))) else none := ts_I tT_125
theorem tT_126 : T_0[126]? = some (.inl (0, 800, false)) := by rfl
theorem xN_126 {s : mjSt3} {k : Int32 → mjU} : aN (mjW0 s) 126 k = k (Int32.ofNat 800) := ta_N tT_126 (by decide)
theorem xa_126 {s : mjSt3} {i : Int32} {k : Int32 → mjU} : aI (mjW0 s) 126 i k = if mj_in i 800 = true then k (s.1 126 i.toNatClampNeg) else none := ta_I tT_126
theorem xs_126 {s : mjSt3} {i x : Int32} {k : mjH → mjU} : sI (mjW0 s) 126 i x k = if mj_in i 800 = true then k (mjW0 (uI s 126 (upd (s.1 126) i.toNatClampNeg x))) else none := ts_I tT_126
theorem tT_127 : T_0[127]? = some (.inl (0, 800, false)) := by rfl
theorem xN_127 {s : mjSt3} {k : Int32 → mjU} : aN (mjW0 s) 127 k = k (Int32.ofNat 800) := ta_N tT_127 (by decide)
theorem xa_127 {s : mjSt3} {i : Int32} {k : Int32 → mjU} : aI (mjW0 s) 127 i k = if mj_in i 800 = true then k (s.1 127 i.toNatClampNeg) else none := ta_I tT_127
theorem xs_127 {s : mjSt3} {i x : Int32} {k : mjH → mjU} : sI (mjW0 s) 127 i x k = if mj_in i 800 = true then k (mjW0 (uI s 127 (upd (s.1 127) i.toNatClampNeg x))) else none := ts_I tT_127
theorem tT_128 : T_0[128]? = some (.inl (0, 800, false)) := by rfl
theorem xN_128 {s : mjSt3} {k : Int32 → mjU} : aN (mjW0 s) 128 k = k (Int32.ofNat 800) := ta_N tT_128 (by decide)
theorem xa_128 {s : mjSt3} {i : Int32} {k : Int32 → mjU} : aI (mjW0 s) 128 i k = if mj_in i 800 = true then k (s.1 128 i.toNatClampNeg) else none := ta_I tT_128
theorem xs_128 {s : mjSt3} {i x : Int32} {k : mjH → mjU} : sI (mjW0 s) 128 i x k = if mj_in i 800 = true then k (mjW0 (uI s 128 (upd (s.1 128) i.toNatClampNeg x))) else none := ts_I tT_128
theorem tT_129 : T_0[129]? = some (.inl (0, 800, false)) := by rfl
theorem xN_129 {s : mjSt3} {k : Int32 → mjU} : aN (mjW0 s) 129 k = k (Int32.ofNat 800) := ta_N tT_129 (by decide)
theorem xa_129 {s : mjSt3} {i : Int32} {k : Int32 → mjU} : aI (mjW0 s) 129 i k = if mj_in i 800 = true then k (s.1 129 i.toNatClampNeg) else none := ta_I tT_129
theorem xs_129 {s : mjSt3} {i x : Int32} {k : mjH → mjU} : sI (mjW0 s) 129 i x k = if mj_in i 800 = true then k (mjW0 (uI s 129 (upd (s.1 129) i.toNatClampNeg x))) else none := ts_I tT_129
theorem tT_130 : T_0[130]? = some (.inl (0, 800, false)) := by rfl
theorem xN_130 {s : mjSt3} {k : Int32 → mjU} : aN (mjW0 s) 130 k = k (Int32.ofNat 800) := ta_N tT_130 (by decide)
theorem xa_130 {s : mjSt3} {i : Int32} {k : Int32 → mjU} : aI (mjW0 s) 130 i k = if mj_in i 800 = true then k (s.1 130 i.toNatClampNeg) else none := ta_I tT_130
theorem xs_130 {s : mjSt3} {i x : Int32} {k : mjH → mjU} : sI (mjW0 s) 130 i x k = if mj_in i 800 = true then k (mjW0 (uI s 130 (upd (s.1 130) i.toNatClampNeg x))) else none := ts_I tT_130
theorem tT_131 : T_0[131]? = some (.inl (0, 800, false)) := by rfl
theorem xN_131 {s : mjSt3} {k : Int32 → mjU} : aN (mjW0 s) 131 k = k (Int32.ofNat 800) := ta_N tT_131 (by decide)
theorem xa_131 {s : mjSt3} {i : Int32} {k : Int32 → mjU} : aI (mjW0 s) 131 i k = if mj_in i 800 = true then k (s.1 131 i.toNatClampNeg) else none := ta_I tT_131
theorem xs_131 {s : mjSt3} {i x : Int32} {k : mjH → mjU} : sI (mjW0 s) 131 i x k = if mj_in i 800 = true then k (mjW0 (uI s 131 (upd (s.1 131) i.toNatClampNeg x))) else none := ts_I tT_131
theorem tT_132 : T_0[132]? = some (.inl (1, 800, true)) := by rfl
theorem xN_132 {s : mjSt3} {k : Int32 → mjU} : aN (mjW0 s) 132 k = k (Int32.ofNat 800) := ta_N tT_132 (by decide)
theorem xa_132 {s : mjSt3} {i : Int32} {k : Int64 → mjU} : aL (mjW0 s) 132 i k = if mj_in i 800 = true then k (s.2.1 132 i.toNatClampNeg) else none := ta_L tT_132
theorem xs_132 {s : mjSt3} {i : Int32} {x : Int64} {k : mjH → mjU} : sL (mjW0 s) 132 i x k = if mj_in i 800 = true then k (mjW0 (uL s 132 (vp_updL (s.2.1 132) i.toNatClampNeg x))) else none := ts_L tT_132
theorem tT_133 : T_0[133]? = some (.inl (0, 4800, false)) := by rfl
theorem xN_133 {s : mjSt3} {k : Int32 → mjU} : aN (mjW0 s) 133 k = k (Int32.ofNat 4800) := ta_N tT_133 (by decide)
theorem xa_133 {s : mjSt3} {i : Int32} {k : Int32 → mjU} : aI (mjW0 s) 133 i k = if mj_in i 4800 = true then k (s.1 133 i.toNatClampNeg) else none := ta_I tT_133
theorem xs_133 {s : mjSt3} {i x : Int32} {k : mjH → mjU} : sI (mjW0 s) 133 i x k = if mj_in i 4800 = true then k (mjW0 (uI s 133 (upd (s.1 133) i.toNatClampNeg x))) else none := ts_I tT_133
theorem tT_134 : T_0[134]? = some (.inl (0, 4800, false)) := by rfl
theorem xN_134 {s : mjSt3} {k : Int32 → mjU} : aN (mjW0 s) 134 k = k (Int32.ofNat 4800) := ta_N tT_134 (by decide)
theorem xa_134 {s : mjSt3} {i : Int32} {k : Int32 → mjU} : aI (mjW0 s) 134 i k = if mj_in i 4800 = true then k (s.1 134 i.toNatClampNeg) else none := ta_I tT_134
theorem xs_134 {s : mjSt3} {i x : Int32} {k : mjH → mjU} : sI (mjW0 s) 134 i x k = if mj_in i 4800 = true then k (mjW0 (uI s 134 (upd (s.1 134) i.toNatClampNeg x))) else none := ts_I tT_134
theorem tT_135 : T_0[135]? = some (.inl (1, 4800, true)) := by rfl
theorem xN_135 {s : mjSt3} {k : Int32 → mjU} : aN (mjW0 s) 135 k = k (Int32.ofNat 4800) := ta_N tT_135 (by decide)
theorem xa_135 {s : mjSt3} {i : Int32} {k : Int64 → mjU} : aL (mjW0 s) 135 i k = if mj_in i 4800 = true then k (s.2.1 135 i.toNatClampNeg) else none := ta_L tT_135
theorem xs_135 {s : mjSt3} {i : Int32} {x : Int64} {k : mjH → mjU} : sL (mjW0 s) 135 i x k = if mj_in i 4800 = true then k (mjW0 (uL s 135 (vp_updL (s.2.1 135) i.toNatClampNeg x))) else none := ts_L tT_135
theorem tT_136 : T_0[136]? = some (.inl (1, 1600, true)) := by rfl
theorem xN_136 {s : mjSt3} {k : Int32 → mjU} : aN (mjW0 s) 136 k = k (Int32.ofNat 1600) := ta_N tT_136 (by decide)
theorem xa_136 {s : mjSt3} {i : Int32} {k : Int64 → mjU} : aL (mjW0 s) 136 i k = if mj_in i 1600 = true then k (s.2.1 136 i.toNatClampNeg) else none := ta_L tT_136
theorem xs_136 {s : mjSt3} {i : Int32} {x : Int64} {k : mjH → mjU} : sL (mjW0 s) 136 i x k = if mj_in i 1600 = true then k (mjW0 (uL s 136 (vp_updL (s.2.1 136) i.toNatClampNeg x))) else none := ts_L tT_136
theorem tT_137 : T_0[137]? = some (.inl (0, 1600, false)) := by rfl
theorem xN_137 {s : mjSt3} {k : Int32 → mjU} : aN (mjW0 s) 137 k = k (Int32.ofNat 1600) := ta_N tT_137 (by decide)
theorem xa_137 {s : mjSt3} {i : Int32} {k : Int32 → mjU} : aI (mjW0 s) 137 i k = if mj_in i 1600 = true then k (s.1 137 i.toNatClampNeg) else none := ta_I tT_137
theorem xs_137 {s : mjSt3} {i x : Int32} {k : mjH → mjU} : sI (mjW0 s) 137 i x k = if mj_in i 1600 = true then k (mjW0 (uI s 137 (upd (s.1 137) i.toNatClampNeg x))) else none := ts_I tT_137
theorem tT_138 : T_0[138]? = some (.inl (0, 1600, false)) := by rfl
theorem xN_138 {s : mjSt3} {k : Int32 → mjU} : aN (mjW0 s) 138 k = k (Int32.ofNat 1600) := ta_N tT_138 (by decide)
theorem xa_138 {s : mjSt3} {i : Int32} {k : Int32 → mjU} : aI (mjW0 s) 138 i k = if mj_in i 1600 = true then k (s.1 138 i.toNatClampNeg) else none := ta_I tT_138
theorem xs_138 {s : mjSt3} {i x : Int32} {k : mjH → mjU} : sI (mjW0 s) 138 i x k = if mj_in i 1600 = true then k (mjW0 (uI s 138 (upd (s.1 138) i.toNatClampNeg x))) else none := ts_I tT_138
theorem tT_139 : T_0[139]? = some (.inl (0, 1600, false)) := by rfl
theorem xN_139 {s : mjSt3} {k : Int32 → mjU} : aN (mjW0 s) 139 k = k (Int32.ofNat 1600) := ta_N tT_139 (by decide)
theorem xa_139 {s : mjSt3} {i : Int32} {k : Int32 → mjU} : aI (mjW0 s) 139 i k = if mj_in i 1600 = true then k (s.1 139 i.toNatClampNeg) else none := ta_I tT_139
theorem xs_139 {s : mjSt3} {i x : Int32} {k : mjH → mjU} : sI (mjW0 s) 139 i x k = if mj_in i 1600 = true then k (mjW0 (uI s 139 (upd (s.1 139) i.toNatClampNeg x))) else none := ts_I tT_139
theorem tT_140 : T_0[140]? = some (.inl (1, 8000, true)) := by rfl
theorem xN_140 {s : mjSt3} {k : Int32 → mjU} : aN (mjW0 s) 140 k = k (Int32.ofNat 8000) := ta_N tT_140 (by decide)
theorem xa_140 {s : mjSt3} {i : Int32} {k : Int64 → mjU} : aL (mjW0 s) 140 i k = if mj_in i 8000 = true then k (s.2.1 140 i.toNatClampNeg) else none := ta_L tT_140
theorem xs_140 {s : mjSt3} {i : Int32} {x : Int64} {k : mjH → mjU} : sL (mjW0 s) 140 i x k = if mj_in i 8000 = true then k (mjW0 (uL s 140 (vp_updL (s.2.1 140) i.toNatClampNeg x))) else none := ts_L tT_140
theorem tT_141 : T_0[141]? = some (.inl (0, 8000, false)) := by rfl
theorem xN_141 {s : mjSt3} {k : Int32 → mjU} : aN (mjW0 s) 141 k = k (Int32.ofNat 8000) := ta_N tT_141 (by decide)
theorem xa_141 {s : mjSt3} {i : Int32} {k : Int32 → mjU} : aI (mjW0 s) 141 i k = if mj_in i 8000 = true then k (s.1 141 i.toNatClampNeg) else none := ta_I tT_141
theorem xs_141 {s : mjSt3} {i x : Int32} {k : mjH → mjU} : sI (mjW0 s) 141 i x k = if mj_in i 8000 = true then k (mjW0 (uI s 141 (upd (s.1 141) i.toNatClampNeg x))) else none := ts_I tT_141
theorem tT_142 : T_0[142]? = some (.inl (0, 8000, false)) := by rfl
theorem xN_142 {s : mjSt3} {k : Int32 → mjU} : aN (mjW0 s) 142 k = k (Int32.ofNat 8000) := ta_N tT_142 (by decide)
theorem xa_142 {s : mjSt3} {i : Int32} {k : Int32 → mjU} : aI (mjW0 s) 142 i k = if mj_in i 8000 = true then k (s.1 142 i.toNatClampNeg) else none := ta_I tT_142
theorem xs_142 {s : mjSt3} {i x : Int32} {k : mjH → mjU} : sI (mjW0 s) 142 i x k = if mj_in i 8000 = true then k (mjW0 (uI s 142 (upd (s.1 142) i.toNatClampNeg x))) else none := ts_I tT_142
theorem tT_143 : T_0[143]? = some (.inl (0, 10000, false)) := by rfl
theorem xN_143 {s : mjSt3} {k : Int32 → mjU} : aN (mjW0 s) 143 k = k (Int32.ofNat 10000) := ta_N tT_143 (by decide)
theorem xa_143 {s : mjSt3} {i : Int32} {k : Int32 → mjU} : aI (mjW0 s) 143 i k = if mj_in i 10000 = true then k (s.1 143 i.toNatClampNeg) else none := ta_I tT_143
theorem xs_143 {s : mjSt3} {i x : Int32} {k : mjH → mjU} : sI (mjW0 s) 143 i x k = if mj_in i 10000 = true then k (mjW0 (uI s 143 (upd (s.1 143) i.toNatClampNeg x))) else none := ts_I tT_143
theorem tT_144 : T_0[144]? = some (.inl (0, 10000, false)) := by rfl
theorem xN_144 {s : mjSt3} {k : Int32 → mjU} : aN (mjW0 s) 144 k = k (Int32.ofNat 10000) := ta_N tT_144 (by decide)
theorem xa_144 {s : mjSt3} {i : Int32} {k : Int32 → mjU} : aI (mjW0 s) 144 i k = if mj_in i 10000 = true then k (s.1 144 i.toNatClampNeg) else none := ta_I tT_144
theorem xs_144 {s : mjSt3} {i x : Int32} {k : mjH → mjU} : sI (mjW0 s) 144 i x k = if mj_in i 10000 = true then k (mjW0 (uI s 144 (upd (s.1 144) i.toNatClampNeg x))) else none := ts_I tT_144
theorem tT_145 : T_0[145]? = some (.inl (0, 10000, false)) := by rfl
theorem xN_145 {s : mjSt3} {k : Int32 → mjU} : aN (mjW0 s) 145 k = k (Int32.ofNat 10000) := ta_N tT_145 (by decide)
theorem xa_145 {s : mjSt3} {i : Int32} {k : Int32 → mjU} : aI (mjW0 s) 145 i k = if mj_in i 10000 = true then k (s.1 145 i.toNatClampNeg) else none := ta_I tT_145
theorem xs_145 {s : mjSt3} {i x : Int32} {k : mjH → mjU} : sI (mjW0 s) 145 i x k = if mj_in i 10000 = true then k (mjW0 (uI s 145 (upd (s.1 145) i.toNatClampNeg x))) else none := ts_I tT_145
theorem tT_146 : T_0[146]? = some (.inl (0, 10000, false)) := by rfl
theorem xN_146 {s : mjSt3} {k : Int32 → mjU} : aN (mjW0 s) 146 k = k (Int32.ofNat 10000) := ta_N tT_146 (by decide)
theorem xa_146 {s : mjSt3} {i : Int32} {k : Int32 → mjU} : aI (mjW0 s) 146 i k = if mj_in i 10000 = true then k (s.1 146 i.toNatClampNeg) else none := ta_I tT_146
theorem xs_146 {s : mjSt3} {i x : Int32} {k : mjH → mjU} : sI (mjW0 s) 146 i x k = if mj_in i 10000 = true then k (mjW0 (uI s 146 (upd (s.1 146) i.toNatClampNeg x))) else none := ts_I tT_146
theorem tT_147 : T_0[147]? = some (.inl (1, 10000, true)) := by rfl
theorem xN_147 {s : mjSt3} {k : Int32 → mjU} : aN (mjW0 s) 147 k = k (Int32.ofNat 10000) := ta_N tT_147 (by decide)
theorem xa_147 {s : mjSt3} {i : Int32} {k : Int64 → mjU} : aL (mjW0 s) 147 i k = if mj_in i 10000 = true then k (s.2.1 147 i.toNatClampNeg) else none := ta_L tT_147
theorem xs_147 {s : mjSt3} {i : Int32} {x : Int64} {k : mjH → mjU} : sL (mjW0 s) 147 i x k = if mj_in i 10000 = true then k (mjW0 (uL s 147 (vp_updL (s.2.1 147) i.toNatClampNeg x))) else none := ts_L tT_147
theorem tT_148 : T_0[148]? = some (.inl (0, 16, false)) := by rfl
theorem xN_148 {s : mjSt3} {k : Int32 → mjU} : aN (mjW0 s) 148 k = k (Int32.ofNat 16) := ta_N tT_148 (by decide)
theorem xa_148 {s : mjSt3} {i : Int32} {k : Int32 → mjU} : aI (mjW0 s) 148 i k = if mj_in i 16 = true then k (s.1 148 i.toNatClampNeg) else none := ta_I tT_148
theorem xs_148 {s : mjSt3} {i x : Int32} {k : mjH → mjU} : sI (mjW0 s) 148 i x k = if mj_in i 16 = true then k (mjW0 (uI s 148 (upd (s.1 148) i.toNatClampNeg x))) else none := ts_I tT_148
theorem tT_149 : T_0[149]? = some (.inl (0, 16, false)) := by rfl
theorem xN_149 {s : mjSt3} {k : Int32 → mjU} : aN (mjW0 s) 149 k = k (Int32.ofNat 16) := ta_N tT_149 (by decide)
theorem xa_149 {s : mjSt3} {i : Int32} {k : Int32 → mjU} : aI (mjW0 s) 149 i k = if mj_in i 16 = true then k (s.1 149 i.toNatClampNeg) else none := ta_I tT_149
theorem xs_149 {s : mjSt3} {i x : Int32} {k : mjH → mjU} : sI (mjW0 s) 149 i x k = if mj_in i 16 = true then k (mjW0 (uI s 149 (upd (s.1 149) i.toNatClampNeg x))) else none := ts_I tT_149
theorem tT_150 : T_0[150]? = some (.inl (0, 16, false)) := by rfl
theorem xN_150 {s : mjSt3} {k : Int32 → mjU} : aN (mjW0 s) 150 k = k (Int32.ofNat 16) := ta_N tT_150 (by decide)
theorem xa_150 {s : mjSt3} {i : Int32} {k : Int32 → mjU} : aI (mjW0 s) 150 i k = if mj_in i 16 = true then k (s.1 150 i.toNatClampNeg) else none := ta_I tT_150
theorem xs_150 {s : mjSt3} {i x : Int32} {k : mjH → mjU} : sI (mjW0 s) 150 i x k = if mj_in i 16 = true then k (mjW0 (uI s 150 (upd (s.1 150) i.toNatClampNeg x))) else none := ts_I tT_150
theorem tT_151 : T_0[151]? = some (.inl (0, 64, false)) := by rfl
theorem xN_151 {s : mjSt3} {k : Int32 → mjU} : aN (mjW0 s) 151 k = k (Int32.ofNat 64) := ta_N tT_151 (by decide)
theorem xa_151 {s : mjSt3} {i : Int32} {k : Int32 → mjU} : aI (mjW0 s) 151 i k = if mj_in i 64 = true then k (s.1 151 i.toNatClampNeg) else none := ta_I tT_151
theorem xs_151 {s : mjSt3} {i x : Int32} {k : mjH → mjU} : sI (mjW0 s) 151 i x k = if mj_in i 64 = true then k (mjW0 (uI s 151 (upd (s.1 151) i.toNatClampNeg x))) else none := ts_I tT_151
theorem tT_152 : T_0[152]? = some (.inl (0, 64, false)) := by rfl
theorem xN_152 {s : mjSt3} {k : Int32 → mjU} : aN (mjW0 s) 152 k = k (Int32.ofNat 64) := ta_N tT_152 (by decide)
theorem xa_152 {s : mjSt3} {i : Int32} {k : Int32 → mjU} : aI (mjW0 s) 152 i k = if mj_in i 64 = true then k (s.1 152 i.toNatClampNeg) else none := ta_I tT_152
theorem xs_152 {s : mjSt3} {i x : Int32} {k : mjH → mjU} : sI (mjW0 s) 152 i x k = if mj_in i 64 = true then k (mjW0 (uI s 152 (upd (s.1 152) i.toNatClampNeg x))) else none := ts_I tT_152
theorem tT_153 : T_0[153]? = some (.inl (0, 64, false)) := by rfl
theorem xN_153 {s : mjSt3} {k : Int32 → mjU} : aN (mjW0 s) 153 k = k (Int32.ofNat 64) := ta_N tT_153 (by decide)
theorem xa_153 {s : mjSt3} {i : Int32} {k : Int32 → mjU} : aI (mjW0 s) 153 i k = if mj_in i 64 = true then k (s.1 153 i.toNatClampNeg) else none := ta_I tT_153
theorem xs_153 {s : mjSt3} {i x : Int32} {k : mjH → mjU} : sI (mjW0 s) 153 i x k = if mj_in i 64 = true then k (mjW0 (uI s 153 (upd (s.1 153) i.toNatClampNeg x))) else none := ts_I tT_153
theorem tT_154 : T_0[154]? = some (.inl (0, 64, false)) := by rfl
theorem xN_154 {s : mjSt3} {k : Int32 → mjU} : aN (mjW0 s) 154 k = k (Int32.ofNat 64) := ta_N tT_154 (by decide)
theorem xa_154 {s : mjSt3} {i : Int32} {k : Int32 → mjU} : aI (mjW0 s) 154 i k = if mj_in i 64 = true then k (s.1 154 i.toNatClampNeg) else none := ta_I tT_154
theorem xs_154 {s : mjSt3} {i x : Int32} {k : mjH → mjU} : sI (mjW0 s) 154 i x k = if mj_in i 64 = true then k (mjW0 (uI s 154 (upd (s.1 154) i.toNatClampNeg x))) else none := ts_I tT_154
theorem tT_155 : T_0[155]? = some (.inl (0, 200, false)) := by rfl
theorem xN_155 {s : mjSt3} {k : Int32 → mjU} : aN (mjW0 s) 155 k = k (Int32.ofNat 200) := ta_N tT_155 (by decide)
theorem xa_155 {s : mjSt3} {i : Int32} {k : Int32 → mjU} : aI (mjW0 s) 155 i k = if mj_in i 200 = true then k (s.1 155 i.toNatClampNeg) else none := ta_I tT_155
theorem xs_155 {s : mjSt3} {i x : Int32} {k : mjH → mjU} : sI (mjW0 s) 155 i x k = if mj_in i 200 = true then k (mjW0 (uI s 155 (upd (s.1 155) i.toNatClampNeg x))) else none := ts_I tT_155
theorem tT_156 : T_0[156]? = some (.inl (0, 200, false)) := by rfl
theorem xN_156 {s : mjSt3} {k : Int32 → mjU} : aN (mjW0 s) 156 k = k (Int32.ofNat 200) := ta_N tT_156 (by decide)
theorem xa_156 {s : mjSt3} {i : Int32} {k : Int32 → mjU} : aI (mjW0 s) 156 i k = if mj_in i 200 = true then k (s.1 156 i.toNatClampNeg) else none := ta_I tT_156
theorem xs_156 {s : mjSt3} {i x : Int32} {k : mjH → mjU} : sI (mjW0 s) 156 i x k = if mj_in i 200 = true then k (mjW0 (uI s 156 (upd (s.1 156) i.toNatClampNeg x))) else none := ts_I tT_156
theorem tT_157 : T_0[157]? = some (.inl (0, 1000, false)) := by rfl
theorem xN_157 {s : mjSt3} {k : Int32 → mjU} : aN (mjW0 s) 157 k = k (Int32.ofNat 1000) := ta_N tT_157 (by decide)
theorem xa_157 {s : mjSt3} {i : Int32} {k : Int32 → mjU} : aI (mjW0 s) 157 i k = if mj_in i 1000 = true then k (s.1 157 i.toNatClampNeg) else none := ta_I tT_157
theorem xs_157 {s : mjSt3} {i x : Int32} {k : mjH → mjU} : sI (mjW0 s) 157 i x k = if mj_in i 1000 = true then k (mjW0 (uI s 157 (upd (s.1 157) i.toNatClampNeg x))) else none := ts_I tT_157
theorem tT_158 : T_0[158]? = some (.inl (1, 16, true)) := by rfl
theorem xN_158 {s : mjSt3} {k : Int32 → mjU} : aN (mjW0 s) 158 k = k (Int32.ofNat 16) := ta_N tT_158 (by decide)
theorem xa_158 {s : mjSt3} {i : Int32} {k : Int64 → mjU} : aL (mjW0 s) 158 i k = if mj_in i 16 = true then k (s.2.1 158 i.toNatClampNeg) else none := ta_L tT_158
theorem xs_158 {s : mjSt3} {i : Int32} {x : Int64} {k : mjH → mjU} : sL (mjW0 s) 158 i x k = if mj_in i 16 = true then k (mjW0 (uL s 158 (vp_updL (s.2.1 158) i.toNatClampNeg x))) else none := ts_L tT_158
theorem tT_159 : T_0[159]? = some (.inl (0, 16, false)) := by rfl
theorem xN_159 {s : mjSt3} {k : Int32 → mjU} : aN (mjW0 s) 159 k = k (Int32.ofNat 16) := ta_N tT_159 (by decide)
theorem xa_159 {s : mjSt3} {i : Int32} {k : Int32 → mjU} : aI (mjW0 s) 159 i k = if mj_in i 16 = true then k (s.1 159 i.toNatClampNeg) else none := ta_I tT_159
theorem xs_159 {s : mjSt3} {i x : Int32} {k : mjH → mjU} : sI (mjW0 s) 159 i x k = if mj_in i 16 = true then k (mjW0 (uI s 159 (upd (s.1 159) i.toNatClampNeg x))) else none := ts_I tT_159
theorem tT_160 : T_0[160]? = some (.inl (0, 16, false)) := by rfl
theorem xN_160 {s : mjSt3} {k : Int32 → mjU} : aN (mjW0 s) 160 k = k (Int32.ofNat 16) := ta_N tT_160 (by decide)
theorem xa_160 {s : mjSt3} {i : Int32} {k : Int32 → mjU} : aI (mjW0 s) 160 i k = if mj_in i 16 = true then k (s.1 160 i.toNatClampNeg) else none := ta_I tT_160
theorem xs_160 {s : mjSt3} {i x : Int32} {k : mjH → mjU} : sI (mjW0 s) 160 i x k = if mj_in i 16 = true then k (mjW0 (uI s 160 (upd (s.1 160) i.toNatClampNeg x))) else none := ts_I tT_160
theorem tT_161 : T_0[161]? = some (.inl (3, 16, false)) := by rfl
theorem xN_161 {s : mjSt3} {k : Int32 → mjU} : aN (mjW0 s) 161 k = k (Int32.ofNat 16) := ta_N tT_161 (by decide)
theorem xa_161 {s : mjSt3} {i : Int32} {k : Int32 → mjU} : aB (mjW0 s) 161 i k = if mj_in i 16 = true then k (s.1 161 i.toNatClampNeg) else none := ta_B tT_161 rfl
theorem xs_161 {s : mjSt3} {i x : Int32} {k : mjH → mjU} : sB (mjW0 s) 161 i x k = if mj_in i 16 = true then k (mjW0 (uI s 161 (upd (s.1 161) i.toNatClampNeg (vp_nar .boolean x)))) else none := ts_z tT_161
theorem tT_162 : T_0[162]? = some (.inl (0, 64, false)) := by rfl
theorem xN_162 {s : mjSt3} {k : Int32 → mjU} : aN (mjW0 s) 162 k = k (Int32.ofNat 64) := ta_N tT_162 (by decide)
theorem xa_162 {s : mjSt3} {i : Int32} {k : Int32 → mjU} : aI (mjW0 s) 162 i k = if mj_in i 64 = true then k (s.1 162 i.toNatClampNeg) else none := ta_I tT_162
theorem xs_162 {s : mjSt3} {i x : Int32} {k : mjH → mjU} : sI (mjW0 s) 162 i x k = if mj_in i 64 = true then k (mjW0 (uI s 162 (upd (s.1 162) i.toNatClampNeg x))) else none := ts_I tT_162
theorem tT_163 : T_0[163]? = some (.inl (0, 320, false)) := by rfl
theorem xN_163 {s : mjSt3} {k : Int32 → mjU} : aN (mjW0 s) 163 k = k (Int32.ofNat 320) := ta_N tT_163 (by decide)
theorem xa_163 {s : mjSt3} {i : Int32} {k : Int32 → mjU} : aI (mjW0 s) 163 i k = if mj_in i 320 = true then k (s.1 163 i.toNatClampNeg) else none := ta_I tT_163
theorem xs_163 {s : mjSt3} {i x : Int32} {k : mjH → mjU} : sI (mjW0 s) 163 i x k = if mj_in i 320 = true then k (mjW0 (uI s 163 (upd (s.1 163) i.toNatClampNeg x))) else none := ts_I tT_163
theorem tT_164 : T_0[164]? = some (.inl (0, 64, false)) := by rfl
theorem xN_164 {s : mjSt3} {k : Int32 → mjU} : aN (mjW0 s) 164 k = k (Int32.ofNat 64) := ta_N tT_164 (by decide)
theorem xa_164 {s : mjSt3} {i : Int32} {k : Int32 → mjU} : aI (mjW0 s) 164 i k = if mj_in i 64 = true then k (s.1 164 i.toNatClampNeg) else none := ta_I tT_164
theorem xs_164 {s : mjSt3} {i x : Int32} {k : mjH → mjU} : sI (mjW0 s) 164 i x k = if mj_in i 64 = true then k (mjW0 (uI s 164 (upd (s.1 164) i.toNatClampNeg x))) else none := ts_I tT_164
theorem tT_165 : T_0[165]? = some (.inl (0, 5, false)) := by rfl
theorem xN_165 {s : mjSt3} {k : Int32 → mjU} : aN (mjW0 s) 165 k = k (Int32.ofNat 5) := ta_N tT_165 (by decide)
theorem xa_165 {s : mjSt3} {i : Int32} {k : Int32 → mjU} : aI (mjW0 s) 165 i k = if mj_in i 5 = true then k (s.1 165 i.toNatClampNeg) else none := ta_I tT_165
theorem xs_165 {s : mjSt3} {i x : Int32} {k : mjH → mjU} : sI (mjW0 s) 165 i x k = if mj_in i 5 = true then k (mjW0 (uI s 165 (upd (s.1 165) i.toNatClampNeg x))) else none := ts_I tT_165
theorem tT_166 : T_0[166]? = some (.inl (0, 5, false)) := by rfl
theorem xN_166 {s : mjSt3} {k : Int32 → mjU} : aN (mjW0 s) 166 k = k (Int32.ofNat 5) := ta_N tT_166 (by decide)
theorem xa_166 {s : mjSt3} {i : Int32} {k : Int32 → mjU} : aI (mjW0 s) 166 i k = if mj_in i 5 = true then k (s.1 166 i.toNatClampNeg) else none := ta_I tT_166
theorem xs_166 {s : mjSt3} {i x : Int32} {k : mjH → mjU} : sI (mjW0 s) 166 i x k = if mj_in i 5 = true then k (mjW0 (uI s 166 (upd (s.1 166) i.toNatClampNeg x))) else none := ts_I tT_166
theorem tT_167 : T_0[167]? = some (.inl (0, 200, false)) := by rfl
theorem xN_167 {s : mjSt3} {k : Int32 → mjU} : aN (mjW0 s) 167 k = k (Int32.ofNat 200) := ta_N tT_167 (by decide)
theorem xa_167 {s : mjSt3} {i : Int32} {k : Int32 → mjU} : aI (mjW0 s) 167 i k = if mj_in i 200 = true then k (s.1 167 i.toNatClampNeg) else none := ta_I tT_167
theorem xs_167 {s : mjSt3} {i x : Int32} {k : mjH → mjU} : sI (mjW0 s) 167 i x k = if mj_in i 200 = true then k (mjW0 (uI s 167 (upd (s.1 167) i.toNatClampNeg x))) else none := ts_I tT_167
theorem tT_168 : T_0[168]? = some (.inl (0, 4000, false)) := by rfl
theorem xN_168 {s : mjSt3} {k : Int32 → mjU} : aN (mjW0 s) 168 k = k (Int32.ofNat 4000) := ta_N tT_168 (by decide)
theorem xa_168 {s : mjSt3} {i : Int32} {k : Int32 → mjU} : aI (mjW0 s) 168 i k = if mj_in i 4000 = true then k (s.1 168 i.toNatClampNeg) else none := ta_I tT_168
theorem xs_168 {s : mjSt3} {i x : Int32} {k : mjH → mjU} : sI (mjW0 s) 168 i x k = if mj_in i 4000 = true then k (mjW0 (uI s 168 (upd (s.1 168) i.toNatClampNeg x))) else none := ts_I tT_168
theorem tT_169 : T_0[169]? = some (.inl (0, 1400, false)) := by rfl
theorem xN_169 {s : mjSt3} {k : Int32 → mjU} : aN (mjW0 s) 169 k = k (Int32.ofNat 1400) := ta_N tT_169 (by decide)
theorem xa_169 {s : mjSt3} {i : Int32} {k : Int32 → mjU} : aI (mjW0 s) 169 i k = if mj_in i 1400 = true then k (s.1 169 i.toNatClampNeg) else none := ta_I tT_169
theorem xs_169 {s : mjSt3} {i x : Int32} {k : mjH → mjU} : sI (mjW0 s) 169 i x k = if mj_in i 1400 = true then k (mjW0 (uI s 169 (upd (s.1 169) i.toNatClampNeg x))) else none := ts_I tT_169
theorem tT_170 : T_0[170]? = some (.inl (0, 1400, false)) := by rfl
theorem xN_170 {s : mjSt3} {k : Int32 → mjU} : aN (mjW0 s) 170 k = k (Int32.ofNat 1400) := ta_N tT_170 (by decide)
theorem xa_170 {s : mjSt3} {i : Int32} {k : Int32 → mjU} : aI (mjW0 s) 170 i k = if mj_in i 1400 = true then k (s.1 170 i.toNatClampNeg) else none := ta_I tT_170
theorem xs_170 {s : mjSt3} {i x : Int32} {k : mjH → mjU} : sI (mjW0 s) 170 i x k = if mj_in i 1400 = true then k (mjW0 (uI s 170 (upd (s.1 170) i.toNatClampNeg x))) else none := ts_I tT_170
theorem tT_171 : T_0[171]? = some (.inl (0, 40, false)) := by rfl
theorem xN_171 {s : mjSt3} {k : Int32 → mjU} : aN (mjW0 s) 171 k = k (Int32.ofNat 40) := ta_N tT_171 (by decide)
theorem xa_171 {s : mjSt3} {i : Int32} {k : Int32 → mjU} : aI (mjW0 s) 171 i k = if mj_in i 40 = true then k (s.1 171 i.toNatClampNeg) else none := ta_I tT_171
theorem xs_171 {s : mjSt3} {i x : Int32} {k : mjH → mjU} : sI (mjW0 s) 171 i x k = if mj_in i 40 = true then k (mjW0 (uI s 171 (upd (s.1 171) i.toNatClampNeg x))) else none := ts_I tT_171
theorem tT_172 : T_0[172]? = some (.inl (0, 40, false)) := by rfl
theorem xN_172 {s : mjSt3} {k : Int32 → mjU} : aN (mjW0 s) 172 k = k (Int32.ofNat 40) := ta_N tT_172 (by decide)
theorem xa_172 {s : mjSt3} {i : Int32} {k : Int32 → mjU} : aI (mjW0 s) 172 i k = if mj_in i 40 = true then k (s.1 172 i.toNatClampNeg) else none := ta_I tT_172
theorem xs_172 {s : mjSt3} {i x : Int32} {k : mjH → mjU} : sI (mjW0 s) 172 i x k = if mj_in i 40 = true then k (mjW0 (uI s 172 (upd (s.1 172) i.toNatClampNeg x))) else none := ts_I tT_172
theorem tT_173 : T_0[173]? = some (.inl (0, 40, false)) := by rfl
theorem xN_173 {s : mjSt3} {k : Int32 → mjU} : aN (mjW0 s) 173 k = k (Int32.ofNat 40) := ta_N tT_173 (by decide)
theorem xa_173 {s : mjSt3} {i : Int32} {k : Int32 → mjU} : aI (mjW0 s) 173 i k = if mj_in i 40 = true then k (s.1 173 i.toNatClampNeg) else none := ta_I tT_173
theorem xs_173 {s : mjSt3} {i x : Int32} {k : mjH → mjU} : sI (mjW0 s) 173 i x k = if mj_in i 40 = true then k (mjW0 (uI s 173 (upd (s.1 173) i.toNatClampNeg x))) else none := ts_I tT_173
theorem tT_174 : T_0[174]? = some (.inl (0, 40, false)) := by rfl
theorem xN_174 {s : mjSt3} {k : Int32 → mjU} : aN (mjW0 s) 174 k = k (Int32.ofNat 40) := ta_N tT_174 (by decide)
theorem xa_174 {s : mjSt3} {i : Int32} {k : Int32 → mjU} : aI (mjW0 s) 174 i k = if mj_in i 40 = true then k (s.1 174 i.toNatClampNeg) else none := ta_I tT_174
theorem xs_174 {s : mjSt3} {i x : Int32} {k : mjH → mjU} : sI (mjW0 s) 174 i x k = if mj_in i 40 = true then k (mjW0 (uI s 174 (upd (s.1 174) i.toNatClampNeg x))) else none := ts_I tT_174
theorem tT_175 : T_0[175]? = some (.inl (0, 640, false)) := by rfl
theorem xN_175 {s : mjSt3} {k : Int32 → mjU} : aN (mjW0 s) 175 k = k (Int32.ofNat 640) := ta_N tT_175 (by decide)
theorem xa_175 {s : mjSt3} {i : Int32} {k : Int32 → mjU} : aI (mjW0 s) 175 i k = if mj_in i 640 = true then k (s.1 175 i.toNatClampNeg) else none := ta_I tT_175
theorem xs_175 {s : mjSt3} {i x : Int32} {k : mjH → mjU} : sI (mjW0 s) 175 i x k = if mj_in i 640 = true then k (mjW0 (uI s 175 (upd (s.1 175) i.toNatClampNeg x))) else none := ts_I tT_175
theorem tT_176 : T_0[176]? = some (.inl (0, 8000, false)) := by rfl
theorem xN_176 {s : mjSt3} {k : Int32 → mjU} : aN (mjW0 s) 176 k = k (Int32.ofNat 8000) := ta_N tT_176 (by decide)
theorem xa_176 {s : mjSt3} {i : Int32} {k : Int32 → mjU} : aI (mjW0 s) 176 i k = if mj_in i 8000 = true then k (s.1 176 i.toNatClampNeg) else none := ta_I tT_176
theorem xs_176 {s : mjSt3} {i x : Int32} {k : mjH → mjU} : sI (mjW0 s) 176 i x k = if mj_in i 8000 = true then k (mjW0 (uI s 176 (upd (s.1 176) i.toNatClampNeg x))) else none := ts_I tT_176
theorem tT_177 : T_0[177]? = some (.inl (3, 1400, false)) := by rfl
theorem xN_177 {s : mjSt3} {k : Int32 → mjU} : aN (mjW0 s) 177 k = k (Int32.ofNat 1400) := ta_N tT_177 (by decide)
theorem xa_177 {s : mjSt3} {i : Int32} {k : Int32 → mjU} : aB (mjW0 s) 177 i k = if mj_in i 1400 = true then k (s.1 177 i.toNatClampNeg) else none := ta_B tT_177 rfl
theorem xs_177 {s : mjSt3} {i x : Int32} {k : mjH → mjU} : sB (mjW0 s) 177 i x k = if mj_in i 1400 = true then k (mjW0 (uI s 177 (upd (s.1 177) i.toNatClampNeg (vp_nar .boolean x)))) else none := ts_z tT_177
theorem tT_178 : T_0[178]? = some (.inl (0, 1400, false)) := by rfl
theorem xN_178 {s : mjSt3} {k : Int32 → mjU} : aN (mjW0 s) 178 k = k (Int32.ofNat 1400) := ta_N tT_178 (by decide)
theorem xa_178 {s : mjSt3} {i : Int32} {k : Int32 → mjU} : aI (mjW0 s) 178 i k = if mj_in i 1400 = true then k (s.1 178 i.toNatClampNeg) else none := ta_I tT_178
theorem xs_178 {s : mjSt3} {i x : Int32} {k : mjH → mjU} : sI (mjW0 s) 178 i x k = if mj_in i 1400 = true then k (mjW0 (uI s 178 (upd (s.1 178) i.toNatClampNeg x))) else none := ts_I tT_178
theorem tT_179 : T_0[179]? = some (.inl (0, 1400, false)) := by rfl
theorem xN_179 {s : mjSt3} {k : Int32 → mjU} : aN (mjW0 s) 179 k = k (Int32.ofNat 1400) := ta_N tT_179 (by decide)
theorem xa_179 {s : mjSt3} {i : Int32} {k : Int32 → mjU} : aI (mjW0 s) 179 i k = if mj_in i 1400 = true then k (s.1 179 i.toNatClampNeg) else none := ta_I tT_179
theorem xs_179 {s : mjSt3} {i x : Int32} {k : mjH → mjU} : sI (mjW0 s) 179 i x k = if mj_in i 1400 = true then k (mjW0 (uI s 179 (upd (s.1 179) i.toNatClampNeg x))) else none := ts_I tT_179
theorem tT_180 : T_0[180]? = some (.inl (0, 1400, false)) := by rfl
theorem xN_180 {s : mjSt3} {k : Int32 → mjU} : aN (mjW0 s) 180 k = k (Int32.ofNat 1400) := ta_N tT_180 (by decide)
theorem xa_180 {s : mjSt3} {i : Int32} {k : Int32 → mjU} : aI (mjW0 s) 180 i k = if mj_in i 1400 = true then k (s.1 180 i.toNatClampNeg) else none := ta_I tT_180
theorem xs_180 {s : mjSt3} {i x : Int32} {k : mjH → mjU} : sI (mjW0 s) 180 i x k = if mj_in i 1400 = true then k (mjW0 (uI s 180 (upd (s.1 180) i.toNatClampNeg x))) else none := ts_I tT_180
theorem tT_181 : T_0[181]? = some (.inl (3, 1400, false)) := by rfl
theorem xN_181 {s : mjSt3} {k : Int32 → mjU} : aN (mjW0 s) 181 k = k (Int32.ofNat 1400) := ta_N tT_181 (by decide)
theorem xa_181 {s : mjSt3} {i : Int32} {k : Int32 → mjU} : aB (mjW0 s) 181 i k = if mj_in i 1400 = true then k (s.1 181 i.toNatClampNeg) else none := ta_B tT_181 rfl
theorem xs_181 {s : mjSt3} {i x : Int32} {k : mjH → mjU} : sB (mjW0 s) 181 i x k = if mj_in i 1400 = true then k (mjW0 (uI s 181 (upd (s.1 181) i.toNatClampNeg (vp_nar .boolean x)))) else none := ts_z tT_181
theorem tT_182 : T_0[182]? = some (.inl (0, 64, false)) := by rfl
theorem xN_182 {s : mjSt3} {k : Int32 → mjU} : aN (mjW0 s) 182 k = k (Int32.ofNat 64) := ta_N tT_182 (by decide)
theorem xa_182 {s : mjSt3} {i : Int32} {k : Int32 → mjU} : aI (mjW0 s) 182 i k = if mj_in i 64 = true then k (s.1 182 i.toNatClampNeg) else none := ta_I tT_182
theorem xs_182 {s : mjSt3} {i x : Int32} {k : mjH → mjU} : sI (mjW0 s) 182 i x k = if mj_in i 64 = true then k (mjW0 (uI s 182 (upd (s.1 182) i.toNatClampNeg x))) else none := ts_I tT_182
theorem tT_183 : T_0[183]? = some (.inl (0, 16, false)) := by rfl
theorem xN_183 {s : mjSt3} {k : Int32 → mjU} : aN (mjW0 s) 183 k = k (Int32.ofNat 16) := ta_N tT_183 (by decide)
theorem xa_183 {s : mjSt3} {i : Int32} {k : Int32 → mjU} : aI (mjW0 s) 183 i k = if mj_in i 16 = true then k (s.1 183 i.toNatClampNeg) else none := ta_I tT_183
theorem xs_183 {s : mjSt3} {i x : Int32} {k : mjH → mjU} : sI (mjW0 s) 183 i x k = if mj_in i 16 = true then k (mjW0 (uI s 183 (upd (s.1 183) i.toNatClampNeg x))) else none := ts_I tT_183
theorem tT_184 : T_0[184]? = some (.inl (3, 12800, false)) := by rfl
theorem xN_184 {s : mjSt3} {k : Int32 → mjU} : aN (mjW0 s) 184 k = k (Int32.ofNat 12800) := ta_N tT_184 (by decide)
theorem xa_184 {s : mjSt3} {i : Int32} {k : Int32 → mjU} : aB (mjW0 s) 184 i k = if mj_in i 12800 = true then k (s.1 184 i.toNatClampNeg) else none := ta_B tT_184 rfl
theorem xs_184 {s : mjSt3} {i x : Int32} {k : mjH → mjU} : sB (mjW0 s) 184 i x k = if mj_in i 12800 = true then k (mjW0 (uI s 184 (upd (s.1 184) i.toNatClampNeg (vp_nar .boolean x)))) else none := ts_z tT_184
theorem tT_185 : T_0[185]? = some (.inl (0, 5, false)) := by rfl
theorem xN_185 {s : mjSt3} {k : Int32 → mjU} : aN (mjW0 s) 185 k = k (Int32.ofNat 5) := ta_N tT_185 (by decide)
theorem xa_185 {s : mjSt3} {i : Int32} {k : Int32 → mjU} : aI (mjW0 s) 185 i k = if mj_in i 5 = true then k (s.1 185 i.toNatClampNeg) else none := ta_I tT_185
theorem xs_185 {s : mjSt3} {i x : Int32} {k : mjH → mjU} : sI (mjW0 s) 185 i x k = if mj_in i 5 = true then k (mjW0 (uI s 185 (upd (s.1 185) i.toNatClampNeg x))) else none := ts_I tT_185
theorem tT_186 : T_0[186]? = some (.inl (3, 1400, false)) := by rfl
theorem xN_186 {s : mjSt3} {k : Int32 → mjU} : aN (mjW0 s) 186 k = k (Int32.ofNat 1400) := ta_N tT_186 (by decide)
theorem xa_186 {s : mjSt3} {i : Int32} {k : Int32 → mjU} : aB (mjW0 s) 186 i k = if mj_in i 1400 = true then k (s.1 186 i.toNatClampNeg) else none := ta_B tT_186 rfl
theorem xs_186 {s : mjSt3} {i x : Int32} {k : mjH → mjU} : sB (mjW0 s) 186 i x k = if mj_in i 1400 = true then k (mjW0 (uI s 186 (upd (s.1 186) i.toNatClampNeg (vp_nar .boolean x)))) else none := ts_z tT_186
theorem tT_187 : T_0[187]? = some (.inl (0, 1400, false)) := by rfl
theorem xN_187 {s : mjSt3} {k : Int32 → mjU} : aN (mjW0 s) 187 k = k (Int32.ofNat 1400) := ta_N tT_187 (by decide)
theorem xa_187 {s : mjSt3} {i : Int32} {k : Int32 → mjU} : aI (mjW0 s) 187 i k = if mj_in i 1400 = true then k (s.1 187 i.toNatClampNeg) else none := ta_I tT_187
theorem xs_187 {s : mjSt3} {i x : Int32} {k : mjH → mjU} : sI (mjW0 s) 187 i x k = if mj_in i 1400 = true then k (mjW0 (uI s 187 (upd (s.1 187) i.toNatClampNeg x))) else none := ts_I tT_187
