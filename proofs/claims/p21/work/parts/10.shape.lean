/-! ===== a world as its shape and its rows' contents ===== -/
abbrev mjSp : Type := (Nat × Nat × Bool) ⊕ (Nat × List Value)
def mjSh (x : va_E) : mjSp := match x with
  | .inl (t, n, .inl _) => .inl (t, n, false)
  | .inl (t, n, .inr _) => .inl (t, n, true)
  | .inr o => .inr o
def mjPl (x : va_E) : Bool := match x with
  | .inl (_, _, .inr (.inr _)) => false
  | _ => true
def mjGi (hp : mjH) (h : Nat) : Nat → Int32 := match hp[h]? with
  | some (.inl (_, _, .inl f)) => f
  | _ => fun _ => 0
def mjGl (hp : mjH) (h : Nat) : Nat → Int64 := match hp[h]? with
  | some (.inl (_, _, .inr (.inl f))) => f
  | _ => fun _ => 0
def mjB0 (gi : Nat → Nat → Int32) (gl : Nat → Nat → Int64) (k : Nat) (s : mjSp) : va_E := match s with
  | .inl (t, n, false) => .inl (t, n, .inl (gi k))
  | .inl (t, n, true) => .inl (t, n, .inr (.inl (gl k)))
  | .inr o => .inr o
def mjB1 (gi : Nat → Nat → Int32) (gl : Nat → Nat → Int64) : Nat → List mjSp → mjH
  | _, [] => []
  | k, s :: l => mjB0 gi gl k s :: mjB1 gi gl (k + 1) l
def mjBd (S : List mjSp) (gi : Nat → Nat → Int32) (gl : Nat → Nat → Int64) : mjH := mjB1 gi gl 0 S
theorem mjB1_get (gi : Nat → Nat → Int32) (gl : Nat → Nat → Int64) (l : List mjSp) : ∀ k i : Nat, (mjB1 gi gl k l)[i]? = (l[i]?).map (mjB0 gi gl (k + i)) := by
  induction l with
  | nil => intro k i; rfl
  | cons s l ih =>
    intro k i
    cases i with
    | zero => rfl
    | succ i =>
      show (mjB1 gi gl (k + 1) l)[i]? = (l[i]?).map (mjB0 gi gl (k + (i + 1)))
      rw [ih, show k + 1 + i = k + (i + 1) by omega]
theorem mjBd_of {hp : mjH} {S : List mjSp} (h : hp.map mjSh = S) (hp1 : hp.all mjPl = true) : hp = mjBd S (mjGi hp) (mjGl hp) := by
  subst h
  apply List.ext_getElem?
  intro i
  unfold mjBd
  rw [mjB1_get, List.getElem?_map, Nat.zero_add]
  cases hx : hp[i]? with
  | none => rfl
  | some x =>
    have hq := List.all_eq_true.mp hp1 x (List.mem_of_getElem? hx)
    simp only [Option.map_some, Option.some.injEq]
    match x, hx, hq with
    | .inl (t, n, .inl f), hx, _ => simp only [mjSh, mjB0, mjGi, hx]
    | .inl (t, n, .inr (.inl f)), hx, _ => simp only [mjSh, mjB0, mjGl, hx]
    | .inl (t, n, .inr (.inr f)), hx, hq => cases hq
    | .inr o, hx, _ => rfl
theorem mj_piece {f d : Nat} {I : mjI} {n : Nat} {z : mjZ} {kc ks : Nat} {pc' : Nat} {lo' : mjLo} {st' : List Value} {S' : List mjSp} {kF sF : Nat} (h : (mj_go f d I n z kc ks).map (fun q => (q.1.1, q.1.2.1, q.1.2.2.1, q.1.2.2.2.map mjSh, q.1.2.2.2.all mjPl, q.2)) = some (pc', lo', st', S', true, kF, sF)) {X : mjX} {C S : Nat} {Post : Option Value → mjH → Prop} (h1 : kF ≤ C) (h2 : sF ≤ S) (k : ∀ gi gl, mjG X d C S I Post pc' lo' st' (mjBd S' gi gl) kF sF) : mjG X d C S I Post z.1 z.2.1 z.2.2.1 z.2.2.2 kc ks := by
  obtain ⟨⟨⟨pc, lo, st, hp⟩, k1, s1⟩, g1, g2⟩ := Option.map_eq_some_iff.mp h
  simp only [Prod.mk.injEq] at g2
  obtain ⟨rfl, rfl, rfl, g3, g4, rfl, rfl⟩ := g2
  refine (mj_go_ok n g1).2.2 h1 h2 ?_
  dsimp only
  rw [mjBd_of g3 g4]
  exact k _ _
