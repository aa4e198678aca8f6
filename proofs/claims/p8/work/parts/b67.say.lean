/-! ===== a number is said only behind its STATEMENT's STEP: the orders ===== -/
/-- inside a say: behind its STATEMENT's beginning, up to the order that says -/
def inY (os : List Row) (k : Nat) : Prop := ∃ (p q : Nat) (rp rq : Row), p < k ∧ k ≤ q ∧ os[p]? = some rp ∧ rp.1 = 1 ∧ os[q]? = some rq ∧ rq.1 = 24 ∧ ∀ (i : Nat) (y : Row), p < i → i < q → os[i]? = some y → isE y
def syA (os : List Row) : Prop := ∀ (q : Nat) (r : Row), os[q]? = some r → r.1 = 24 → ∃ (p : Nat) (rp : Row), p < q ∧ os[p]? = some rp ∧ rp.1 = 1 ∧ ∀ (i : Nat) (y : Row), p < i → i < q → os[i]? = some y → isE y
/-- no jump goes to behind a STATEMENT's beginning -/
def syB (i0 : Nat) (big os : List Row) : Prop := ∀ r, r ∈ os → (r.1 = 21 ∨ r.1 = 22) → ∃ (x : Nat) (rx : Row), r.2.2.1 = nI (i0 + (x + 1)) ∧ big[x]? = some rx ∧ ¬ rx.1 = 1
def SYo (i0 : Nat) (os : List Row) : Prop := syA os ∧ syB i0 os os
def SYb (i0 : Nat) (os : List Row) : Prop := SYo i0 os ∧ ∃ a x, os = a ++ [x] ∧ ¬ x.1 = 1
def nY (r : Row) : Prop := ¬ (r.1 = 21 ∨ r.1 = 22 ∨ r.1 = 24)
section MJB67
variable {T : TT} {M : Nat}
theorem syA.app {a b : List Row} (ha : syA a) (hb : syA b) : syA (a ++ b) := by
  intro q r hq h24
  by_cases g : q < a.length
  · rw [List.getElem?_append_left g] at hq
    obtain ⟨p, rp, p1, p2, p3, p4⟩ := ha q r hq h24
    refine ⟨p, rp, p1, by rw [List.getElem?_append_left (by omega)]; exact p2, p3, fun i y i1 i2 hi => p4 i y i1 i2 ?_⟩
    rw [List.getElem?_append_left (by omega)] at hi
    exact hi
  · rw [List.getElem?_append_right (by omega)] at hq
    obtain ⟨p, rp, p1, p2, p3, p4⟩ := hb (q - a.length) r hq h24
    refine ⟨a.length + p, rp, by omega, by rw [List.getElem?_append_right (by omega), show a.length + p - a.length = p by omega]; exact p2, p3, fun i y i1 i2 hi => p4 (i - a.length) y (by omega) (by omega) ?_⟩
    rw [List.getElem?_append_right (by omega)] at hi
    exact hi
theorem syA.n {os : List Row} (h : ∀ r, r ∈ os → ¬ r.1 = 24) : syA os := fun q r hq h24 => absurd h24 (h r (List.mem_of_getElem? hq))
theorem syB.n {i0 : Nat} {big os : List Row} (h : ∀ r, r ∈ os → ¬ (r.1 = 21 ∨ r.1 = 22)) : syB i0 big os := fun r hr hj => absurd hj (h r hr)
theorem syB.app {i0 : Nat} {big a b : List Row} (ha : syB i0 big a) (hb : syB i0 big b) : syB i0 big (a ++ b) := fun r hr hj => (List.mem_append.mp hr).elim (fun h => ha r h hj) (fun h => hb r h hj)
theorem syB.sub {i0 : Nat} {a os c : List Row} (h : syB (i0 + a.length) os os) : syB i0 (a ++ (os ++ c)) os := by
  intro r hr hj
  obtain ⟨x, rx, x1, x2, x3⟩ := h r hr hj
  have xl := (List.getElem?_eq_some_iff.mp x2).1
  refine ⟨a.length + x, rx, by rw [x1]; exact congrArg nI (by omega), ?_, x3⟩
  rw [List.getElem?_append_right (by omega), show a.length + x - a.length = x by omega, List.getElem?_append_left xl]
  exact x2
theorem SYo.app {i0 : Nat} {a b : List Row} (ha : SYo i0 a) (hb : SYo (i0 + a.length) b) : SYo i0 (a ++ b) := by
  refine ⟨ha.1.app hb.1, syB.app ?_ ?_⟩
  · have := syB.sub (i0 := i0) (a := []) (os := a) (c := b) ha.2
    exact this
  · have := syB.sub (i0 := i0) (a := a) (os := b) (c := []) hb.2
    rw [List.append_nil] at this
    exact this
theorem nY.e {r : Row} (h : isE r) : nY r := by
  unfold nY
  rcases h with h | h | h | h | h | h | h | h | h | h | h | h | h <;> rw [h] <;> decide
theorem SYo.ny {i0 : Nat} {os : List Row} (h : ∀ r, r ∈ os → nY r) : SYo i0 os := ⟨syA.n (fun r hr e => h r hr (Or.inr (Or.inr e))), syB.n (fun r hr e => h r hr (e.elim Or.inl (fun e => Or.inr (Or.inl e))))⟩
theorem ny_app {a b : List Row} (ha : ∀ r, r ∈ a → nY r) (hb : ∀ r, r ∈ b → nY r) : ∀ r, r ∈ a ++ b → nY r := fun r hr => (List.mem_append.mp hr).elim (ha r) (hb r)
theorem ny_one {r : Row} (h : nY r) : ∀ y, y ∈ [r] → nY y := fun y hy => by
  have e : y = r := by simpa using hy
  rw [e]
  exact h
theorem ny_cons {r : Row} {l : List Row} (h : nY r) (hl : ∀ y, y ∈ l → nY y) : ∀ y, y ∈ r :: l → nY y := fun y hy => (List.mem_cons.mp hy).elim (fun e => by rw [e]; exact h) (hl y)
theorem prV_isE {o c kq : Nat} {y : PZ} (ho : o ≤ 12) (h : prV T M o c kq = .inr y) : ∀ r, r ∈ y.2.2.2.1 → isE r := fun r hr => scE_isE _ _ ((prV_gd ho h).2 0 [] 0 60 20 120 (by omega) (by show 0 + 12 ≤ 20; omega) (by omega)).1 r hr
/-- a STATEMENT's beginning, an E, an order -/
theorem syA.say {e : List Row} {l w : Row} (hl : l.1 = 1) (he : ∀ r, r ∈ e → isE r) : syA (l :: (e ++ [w])) := by
  intro q r hq h24
  cases q with
  | zero =>
    have e1 : l = r := by simpa using hq
    rw [← e1, hl] at h24
    exact absurd h24 (by decide)
  | succ q =>
    have hq' : (e ++ [w])[q]? = some r := hq
    have ql := (List.getElem?_eq_some_iff.mp hq').1
    rw [List.length_append, List.length_singleton] at ql
    refine ⟨0, l, by omega, rfl, hl, fun i y i1 i2 hi => ?_⟩
    obtain ⟨i', ei⟩ : ∃ i', i = i' + 1 := ⟨i - 1, by omega⟩
    rw [ei] at hi
    have hi' : (e ++ [w])[i']? = some y := hi
    rw [List.getElem?_append_left (by omega)] at hi'
    exact he y (List.mem_of_getElem? hi')
theorem ny_l {c : Nat} : nY (oLine T c) := by unfold nY; show ¬ ((1 : Int32) = 21 ∨ (1 : Int32) = 22 ∨ (1 : Int32) = 24); decide
theorem pDecl_sy {o c td kq i0 : Nat} {y : PB} (ho : o ≤ 12) (h : pDecl T M o c td kq = .inr y) : SYo i0 y.2.2.2.1 := by
  unfold pDecl at h
  cases hp : pType T c with
  | inl x => rw [hp] at h; cases h
  | inr c1 =>
    rw [hp] at h
    dsimp only at h
    by_cases h3 : (T c1).1 = 3
    · rw [if_pos h3] at h
      by_cases t16 : td = 16
      · rw [if_pos t16] at h; cases h
      rw [if_neg t16] at h
      by_cases h61 : (T (c1 + 1)).1 = 61
      · rw [if_pos h61] at h
        cases hv : prV T M o (c1 + 2) (kq + (if (T c).1 = 10 then 0 else 1)) with
        | inl x => rw [hv] at h; cases h
        | inr v =>
          rw [hv] at h
          dsimp only at h
          by_cases h59 : (T v.1).1 = 59
          · rw [if_pos h59] at h
            cases h
            have key : ∀ (r19 r20 : Row), r19.1 = 19 → r20.1 = 20 → SYo i0 (oLine T c :: r19 :: (v.2.2.2.1 ++ [r20])) := fun r19 r20 e1 e2 => SYo.ny (ny_cons ny_l (ny_cons (by unfold nY; rw [e1]; decide) (ny_app (fun r hr => nY.e (prV_isE ho hv r hr)) (ny_one (by unfold nY; rw [e2]; decide)))))
            by_cases g10 : (T c).1 = 10
            · simp only [if_pos g10]
              exact key _ _ rfl rfl
            · simp only [if_neg g10]
              exact key _ _ rfl rfl
          · rw [if_neg h59] at h; cases h
      · rw [if_neg h61] at h; cases h
    · rw [if_neg h3] at h; cases h
theorem pGrd_sy {bl : Nat → Nat → Nat → Nat → PY} {o c td kq i0 : Nat} {x : PZ × PB} (ho : o ≤ 12) (hr : ∀ c td kq i0 x, bl c td kq i0 = .inr x → SYb i0 x.2.2.2.1) (h : pGrd T M bl o c td kq i0 = .inr x) : (∀ y, y ∈ x.1.2.2.2.1 → isE y) ∧ SYb (i0 + x.1.2.2.2.1.length + 1) x.2.2.2.2.1 := by
  unfold pGrd at h
  by_cases a : (T (c + 1)).1 = 40
  · rw [if_pos a] at h
    by_cases b : o = 12
    · rw [if_pos b] at h; cases h
    rw [if_neg b] at h
    cases hv : prV T M (o + 1) (c + 2) kq with
    | inl e => rw [hv] at h; cases h
    | inr v =>
      rw [hv] at h
      dsimp only at h
      by_cases g : (T v.1).1 = 41
      · rw [if_pos g] at h
        cases hb : bl (v.1 + 1) td (kq + v.2.2.1.length) (i0 + v.2.2.2.1.length + 1) with
        | inl e => rw [hb] at h; cases h
        | inr w =>
          rw [hb] at h
          cases h
          exact ⟨prV_isE (by omega) hv, hr _ _ _ _ _ hb⟩
      · rw [if_neg g] at h; cases h
  · rw [if_neg a] at h; cases h
/-- if without else -/
theorem SYo.if1 {i0 : Nat} {v w : List Row} {l r : Row} (hl : l.1 = 1) (hv : ∀ y, y ∈ v → isE y) (hw : SYb (i0 + (v.length + 2)) w) (ha : r.2.2.1 = nI (i0 + (v.length + 2 + w.length))) : SYo i0 (l :: (v ++ r :: w)) := by
  obtain ⟨⟨w1, w2⟩, a, x, ew, hx⟩ := hw
  obtain ⟨A, hA⟩ : ∃ A, A = l :: (v ++ [r]) := ⟨_, rfl⟩
  have Al : A.length = v.length + 2 := by rw [hA, List.length_cons, List.length_append, List.length_singleton]
  have big : l :: (v ++ r :: w) = A ++ (w ++ []) := by
    rw [hA, List.append_nil, List.cons_append, List.append_assoc]
    rfl
  have wl : w.length = a.length + 1 := by rw [ew, List.length_append, List.length_singleton]
  have lst : (A ++ (w ++ []))[A.length + a.length]? = some x := by
    rw [List.append_nil, List.getElem?_append_right (by omega), show A.length + a.length - A.length = a.length by omega, ew, List.getElem?_append_right (Nat.le_refl _), Nat.sub_self]
    rfl
  have sA : syA A := by rw [hA]; exact syA.say hl hv
  have w1' : syA (w ++ []) := by rw [List.append_nil]; exact w1
  rw [big]
  refine ⟨sA.app w1', syB.app (fun y hy hj => ?_) (syB.app (syB.sub (by rw [Al]; exact w2)) (fun y hy => by cases hy))⟩
  rw [hA] at hy
  rcases List.mem_cons.mp hy with e | e
  · rw [e, hl] at hj
    exact absurd hj (by decide)
  · rcases List.mem_append.mp e with e | e
    · exact absurd (hj.elim Or.inl (fun q => Or.inr (Or.inl q))) (nY.e (hv y e))
    · have e' : y = r := by simpa using e
      exact ⟨A.length + a.length, x, by rw [e', ha]; exact congrArg nI (by omega), lst, hx⟩
/-- if with else; while -/
theorem SYo.if2 {i0 : Nat} {p v w u : List Row} {r j : Row} (hp : ∀ y, y ∈ p → y.1 = 1 ∨ y.1 = 2) (hv : ∀ y, y ∈ v → isE y) (hr : r.1 = 21) (hj : j.1 = 22 ∨ j.1 = 23) (hw : SYb (i0 + (p.length + v.length + 1)) w) (hu : SYo (i0 + (p.length + v.length + 1 + w.length + 1)) u) (ha : r.2.2.1 = nI (i0 + (p.length + v.length + 1 + w.length + 1))) (hj2 : j.1 = 22 → j.2.2.1 = nI (i0 + (p.length + v.length + 1 + w.length + 1 + u.length)) ∧ ∃ a x, u = a ++ [x] ∧ ¬ x.1 = 1) : SYo i0 ((p ++ v ++ [r]) ++ (w ++ ([j] ++ u))) := by
  obtain ⟨⟨w1, w2⟩, _⟩ := hw
  obtain ⟨u1, u2⟩ := hu
  obtain ⟨A, hA⟩ : ∃ A, A = p ++ v ++ [r] := ⟨_, rfl⟩
  have Al : A.length = p.length + v.length + 1 := by rw [hA, List.length_append, List.length_append, List.length_singleton]
  obtain ⟨B, hB⟩ : ∃ B, B = A ++ w ++ [j] := ⟨_, rfl⟩
  have Bl : B.length = p.length + v.length + 1 + w.length + 1 := by rw [hB, List.length_append, List.length_append, List.length_singleton, Al]
  have big : A ++ (w ++ ([j] ++ u)) = B ++ (u ++ []) := by rw [hB, List.append_nil, List.append_assoc, List.append_assoc]
  have Am : ∀ y, y ∈ A → y = r ∨ (¬ (y.1 = 21 ∨ y.1 = 22) ∧ ¬ y.1 = 24) := by
    intro y hy
    rw [hA] at hy
    rcases List.mem_append.mp hy with e | e
    · rcases List.mem_append.mp e with e | e
      · rcases hp y e with q | q <;> rw [q] <;> exact Or.inr (by decide)
      · have n := nY.e (hv y e)
        exact Or.inr ⟨fun q => n (q.elim Or.inl (fun q => Or.inr (Or.inl q))), fun q => n (Or.inr (Or.inr q))⟩
    · exact Or.inl (by simpa using e)
  have sA : syA A := syA.n (fun y hy => by
    rcases Am y hy with e | e
    · rw [e, hr]; decide
    · exact e.2)
  have sJ : syA [j] := syA.n (fun y hy => by
    have e : y = j := by simpa using hy
    rw [e]
    rcases hj with q | q <;> rw [q] <;> decide)
  have jn : ¬ j.1 = 1 := by rcases hj with q | q <;> rw [q] <;> decide
  rw [← hA]
  refine ⟨sA.app (w1.app (sJ.app u1)), syB.app (fun y hy hk => ?_) (syB.app (syB.sub (by rw [Al]; exact w2)) (syB.app (fun y hy hk => ?_) ?_))⟩
  · rcases Am y hy with e | e
    · refine ⟨A.length + w.length, j, by rw [e, ha]; exact congrArg nI (by omega), ?_, jn⟩
      rw [List.getElem?_append_right (by omega), show A.length + w.length - A.length = w.length by omega, List.getElem?_append_right (Nat.le_refl _), Nat.sub_self]
      rfl
    · exact absurd hk e.1
  · have e : y = j := by simpa using hy
    rw [e] at hk
    have j22 : j.1 = 22 := by
      rcases hk with q | q
      · rcases hj with q' | q'
        · exact q'
        · rw [q'] at q; exact absurd q (by decide)
      · exact q
    obtain ⟨x1, a, x, eu, hx⟩ := hj2 j22
    have ul : u.length = a.length + 1 := by rw [eu, List.length_append, List.length_singleton]
    refine ⟨B.length + a.length, x, by rw [e, x1]; exact congrArg nI (by omega), ?_, hx⟩
    rw [big, List.append_nil, List.getElem?_append_right (by omega), show B.length + a.length - B.length = a.length by omega, eu, List.getElem?_append_right (Nat.le_refl _), Nat.sub_self]
    rfl
  · rw [big]
    exact syB.sub (by rw [Bl]; exact u2)
theorem pIf_sy {bl : Nat → Nat → Nat → Nat → PY} {o c td kq i0 : Nat} {y : PB} (ho : o ≤ 12) (hr : ∀ c td kq i0 x, bl c td kq i0 = .inr x → SYb i0 x.2.2.2.1) (h : pIf T M bl o c td kq i0 = .inr y) : SYo i0 y.2.2.2.1 := by
  unfold pIf at h
  cases hg : pGrd T M bl o c td kq (i0 + 1) with
  | inl e => rw [hg] at h; cases h
  | inr x =>
    rw [hg] at h
    obtain ⟨g2, g3⟩ := pGrd_sy ho hr hg
    obtain ⟨v, w⟩ := x
    dsimp only at h g2 g3
    by_cases e16 : (T w.1).1 = 16
    · rw [if_pos e16] at h
      cases hb : bl (w.1 + 1) w.2.1 (kq + v.2.2.1.length + w.2.2.1.length) (i0 + 3 + v.2.2.2.1.length + w.2.2.2.1.length) with
      | inl e => rw [hb] at h; cases h
      | inr u =>
        rw [hb] at h
        obtain ⟨u3, u4⟩ := hr _ _ _ _ _ hb
        cases h
        have k := SYo.if2 (i0 := i0) (p := [oLine T c]) (v := v.2.2.2.1) (w := w.2.2.2.1) (u := u.2.2.2.1) (r := (21, (T c).2.1, nI (i0 + 3 + v.2.2.2.1.length + w.2.2.2.1.length), 0, 0)) (j := (22, -1, nI (i0 + 3 + v.2.2.2.1.length + w.2.2.2.1.length + u.2.2.2.1.length), 0, 0)) (fun y hy => by
          have e : y = oLine T c := by simpa using hy
          rw [e]
          exact Or.inl rfl) g2 rfl (Or.inl rfl) (by rw [List.length_singleton, show i0 + (1 + v.2.2.2.1.length + 1) = i0 + 1 + v.2.2.2.1.length + 1 by omega]; exact g3) (by rw [List.length_singleton, show i0 + (1 + v.2.2.2.1.length + 1 + w.2.2.2.1.length + 1) = i0 + 3 + v.2.2.2.1.length + w.2.2.2.1.length by omega]; exact u3) (by rw [List.length_singleton]; exact congrArg nI (by omega)) (fun _ => ⟨by rw [List.length_singleton]; exact congrArg nI (by omega), u4⟩)
        simp only [List.append_assoc, List.cons_append, List.nil_append] at k ⊢
        exact k
    · rw [if_neg e16] at h
      cases h
      exact SYo.if1 rfl g2 (by rw [show i0 + (v.2.2.2.1.length + 2) = i0 + 1 + v.2.2.2.1.length + 1 by omega]; exact g3) (congrArg nI (by omega))
theorem pWhile_sy {bl : Nat → Nat → Nat → Nat → PY} {o c td kq i0 : Nat} {y : PB} (ho : o ≤ 12) (hr : ∀ c td kq i0 x, bl c td kq i0 = .inr x → SYb i0 x.2.2.2.1) (h : pWhile T M bl o c td kq i0 = .inr y) : SYo i0 y.2.2.2.1 := by
  unfold pWhile at h
  cases hg : pGrd T M bl o c td kq (i0 + 2) with
  | inl e => rw [hg] at h; cases h
  | inr x =>
    rw [hg] at h
    obtain ⟨g2, g3⟩ := pGrd_sy ho hr hg
    obtain ⟨v, w⟩ := x
    dsimp only at g2 g3
    cases h
    have k := SYo.if2 (i0 := i0) (p := [oLine T c, (2, (T c).2.1, 0, 0, 0)]) (v := v.2.2.2.1) (w := w.2.2.2.1) (u := []) (r := (21, (T c).2.1, nI (i0 + 4 + v.2.2.2.1.length + w.2.2.2.1.length), 0, 0)) (j := (23, -1, nI (i0 + 1), 0, 0)) (fun y hy => by
      rcases List.mem_cons.mp hy with e | e
      · rw [e]; exact Or.inl rfl
      · have e' : y = (2, (T c).2.1, 0, 0, 0) := by simpa using e
        rw [e']
        exact Or.inr rfl) g2 rfl (Or.inr rfl) (by rw [show [oLine T c, (2, (T c).2.1, 0, 0, 0)].length = 2 from rfl, show i0 + (2 + v.2.2.2.1.length + 1) = i0 + 2 + v.2.2.2.1.length + 1 by omega]; exact g3) (SYo.ny (fun y hy => by cases hy)) (by rw [show [oLine T c, (2, (T c).2.1, 0, 0, 0)].length = 2 from rfl]; exact congrArg nI (by omega)) (fun e => absurd (show (23 : Int32) = 22 from e) (by decide))
    simp only [List.append_assoc, List.cons_append, List.nil_append, List.append_nil] at k ⊢
    exact k
theorem pGive_sy {o c td kq i0 : Nat} {w : Int32} {y : PB} (ho : o ≤ 12) (hw : w = 28 ∨ w = 24) (h : pGive T M o c td kq w = .inr y) : SYo i0 y.2.2.2.1 := by
  unfold pGive at h
  cases hv : prV T M o (c + 1) kq with
  | inl e => rw [hv] at h; cases h
  | inr v =>
    rw [hv] at h
    dsimp only at h
    by_cases g : (T v.1).1 = 59
    · rw [if_pos g] at h
      cases h
      refine ⟨syA.say rfl (prV_isE ho hv), syB.n (fun r hr => ?_)⟩
      rcases List.mem_cons.mp hr with e | e
      · rw [e]; show ¬ ((1 : Int32) = 21 ∨ (1 : Int32) = 22); decide
      · rcases List.mem_append.mp e with e | e
        · exact fun q => nY.e (prV_isE ho hv r e) (q.elim Or.inl (fun q => Or.inr (Or.inl q)))
        · have e' : r = (w, (T c).2.1, 1, 0, 0) := by simpa using e
          rw [e']
          show ¬ (w = 21 ∨ w = 22)
          rcases hw with q | q <;> rw [q] <;> decide
    · rw [if_neg g] at h; cases h
theorem mem_dl : ∀ (l : List Row) (r : Row), r ∈ l.dropLast → r ∈ l
  | [], r, h => h
  | [a], r, h => by cases h
  | a :: b :: l, r, h => by
    have h' : r ∈ a :: (b :: l).dropLast := h
    rcases List.mem_cons.mp h' with e | e
    · rw [e]; exact List.mem_cons_self
    · exact List.mem_cons_of_mem _ (mem_dl (b :: l) r e)
theorem ny_left {sh : Int32} {l : List Row} (h : ∀ r, r ∈ l → isE r) : ∀ r, r ∈ oLeft sh l → nY r := by
  intro r hr
  unfold oLeft at hr
  rcases List.mem_append.mp hr with e | e
  · exact nY.e (h r (mem_dl l r e))
  · have e' : r = (if sh = 1 then 15 else 16, (oLast l).2) := by simpa using e
    rw [e']
    unfold nY
    by_cases q : sh = 1
    · rw [if_pos q]; show ¬ ((15 : Int32) = 21 ∨ (15 : Int32) = 22 ∨ (15 : Int32) = 24); decide
    · rw [if_neg q]; show ¬ ((16 : Int32) = 21 ∨ (16 : Int32) = 22 ∨ (16 : Int32) = 24); decide
theorem pUse_sy {o c td kq i0 : Nat} {y : PB} (ho : o ≤ 12) (h : pUse T M o c td kq i0 = .inr y) : SYo i0 y.2.2.2.1 := by
  unfold pUse at h
  cases hv : prV T M o c kq with
  | inl e => rw [hv] at h; cases h
  | inr v =>
    rw [hv] at h
    dsimp only at h
    by_cases g : (T v.1).1 = 61 ∧ (v.2.1 = 1 ∨ v.2.1 = 2)
    · rw [if_pos g] at h
      cases hv2 : prV T M o (v.1 + 1) (kq + v.2.2.1.length) with
      | inl e => rw [hv2] at h; cases h
      | inr w =>
        rw [hv2] at h
        dsimp only at h
        by_cases g2 : (T w.1).1 = 59
        · rw [if_pos g2] at h
          cases h
          refine SYo.ny (ny_cons ny_l (ny_app (ny_app (ny_left (prV_isE ho hv)) (fun r hr => nY.e (prV_isE ho hv2 r hr))) (ny_one ?_)))
          unfold nY
          by_cases q : v.2.1 = 1
          · simp only [if_pos q]; decide
          · simp only [if_neg q]; decide
        · rw [if_neg g2] at h; cases h
    · rw [if_neg g] at h
      by_cases g2 : (T v.1).1 = 59 ∧ v.2.1 = 3
      · rw [if_pos g2] at h
        cases h
        refine SYo.ny (ny_cons ny_l (ny_app (fun r hr => nY.e (prV_isE ho hv r hr)) (ny_one ?_)))
        unfold nY
        show ¬ ((25 : Int32) = 21 ∨ (25 : Int32) = 22 ∨ (25 : Int32) = 24)
        decide
      · rw [if_neg g2] at h; cases h
theorem pSeq_sy {rd : Nat → Nat → Nat → Nat → PY} {kq i0 : Nat} (hr : ∀ c td kq i0 x, rd c td kq i0 = .inr x → SYo i0 x.2.2.2.1) : ∀ (k : Nat) (z y : PB), SYo i0 z.2.2.2.1 → pSeq T rd kq i0 k z = .inr y → SYo i0 y.2.2.2.1
  | 0, z, y, hz, h => by cases h; exact hz
  | k + 1, z, y, hz, h => by
    unfold pSeq at h
    by_cases g : (T z.1).1 = 125
    · rw [if_pos g] at h
      cases h
      exact hz
    · rw [if_neg g] at h
      cases hd : rd z.1 z.2.1 (kq + z.2.2.1.length) (i0 + z.2.2.2.1.length) with
      | inl e => rw [hd] at h; cases h
      | inr x =>
        rw [hd] at h
        exact pSeq_sy hr k (x.1, x.2.1, z.2.2.1 ++ x.2.2.1, z.2.2.2.1 ++ x.2.2.2.1, z.2.2.2.2 ++ x.2.2.2.2) y (hz.app (hr _ _ _ _ _ hd)) h
/-- EVERY STATEMENT, EVERY BLOCK -/
theorem prS_sy : ∀ (f tag o c td kq i0 : Nat) (y : PB), tag ≤ 1 → o ≤ 12 → prS T M f tag o c td kq i0 = .inr y → SYo i0 y.2.2.2.1 ∧ (tag = 0 → ∃ a x, y.2.2.2.1 = a ++ [x] ∧ ¬ x.1 = 1)
  | 0, _, _, _, _, _, _, _, _, _, h => by cases h
  | f + 1, 0, o, c, td, kq, i0, y, _, ho, h => by
    rw [prS_0] at h
    unfold pBlk at h
    by_cases a : (T c).1 = 123
    · rw [if_pos a] at h
      by_cases b : o = 12
      · rw [if_pos b] at h; cases h
      rw [if_neg b] at h
      cases hd : pSeq T (prS T M f 1 (o + 1)) kq i0 M (c + 1, td, [], [(26, (T (c + 1)).2.1, 0, 0, 0)], []) with
      | inl e => rw [hd] at h; cases h
      | inr z =>
        rw [hd] at h
        dsimp only at h
        have hz := pSeq_sy (fun c td kq i0 x hx => (prS_sy f 1 (o + 1) c td kq i0 x (by omega) (by omega) hx).1) _ _ _ (SYo.ny (i0 := i0) (os := [(26, (T (c + 1)).2.1, 0, 0, 0)]) (ny_one (by unfold nY; show ¬ ((26 : Int32) = 21 ∨ (26 : Int32) = 22 ∨ (26 : Int32) = 24); decide))) hd
        by_cases g : (T z.1).1 = 125
        · rw [if_pos g] at h
          cases h
          refine ⟨hz.app (SYo.ny (ny_one (by unfold nY; show ¬ ((27 : Int32) = 21 ∨ (27 : Int32) = 22 ∨ (27 : Int32) = 24); decide))), fun _ => ⟨z.2.2.2.1, (27, (T (z.1 + 1)).2.1, 0, 0, 0), rfl, ?_⟩⟩
          show ¬ (27 : Int32) = 1
          decide
        · rw [if_neg g] at h; cases h
    · rw [if_neg a] at h; cases h
  | f + 1, 1, o, c, td, kq, i0, y, _, ho, h => by
    refine ⟨?_, fun e => by omega⟩
    rw [prS_1] at h
    have bl : ∀ c td kq i0 x, prS T M f 0 o c td kq i0 = .inr x → SYb i0 x.2.2.2.1 := fun c td kq i0 x hx => ⟨(prS_sy f 0 o c td kq i0 x (by omega) ho hx).1, (prS_sy f 0 o c td kq i0 x (by omega) ho hx).2 rfl⟩
    by_cases e1 : (T c).1 = 2 ∨ (T c).1 = 10
    · rw [if_pos e1] at h; exact pDecl_sy ho h
    rw [if_neg e1] at h
    by_cases e15 : (T c).1 = 15
    · rw [if_pos e15] at h; exact pIf_sy ho bl h
    rw [if_neg e15] at h
    by_cases e17 : (T c).1 = 17
    · rw [if_pos e17] at h; exact pWhile_sy ho bl h
    rw [if_neg e17] at h
    by_cases e18 : (T c).1 = 18
    · rw [if_pos e18] at h; exact pGive_sy ho (Or.inl rfl) h
    rw [if_neg e18] at h
    by_cases e19 : (T c).1 = 19
    · rw [if_pos e19] at h; exact pGive_sy ho (Or.inr rfl) h
    rw [if_neg e19] at h
    by_cases e123 : (T c).1 = 123
    · rw [if_pos e123] at h
      exact (prS_sy f 0 o c td kq i0 y (by omega) ho h).1
    rw [if_neg e123] at h
    exact pUse_sy ho h
  | f + 1, t + 2, o, c, td, kq, i0, y, ht, _, h => by omega
end MJB67
