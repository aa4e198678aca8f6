/-! ===== the orders' brackets: STATEMENTS, and where jumps go ===== -/
/-- the jumps of os, which stands in big from k0 on: forward to a place where nothing waits, or back to a ROUND -/
def JTi (i0 : Nat) (big : List Row) (k0 : Nat) (os : List Row) : Prop := ∀ (k : Nat) (r : Row), os[k]? = some r → (r.1 = 21 ∨ r.1 = 22 → ∃ x, k0 + k < x ∧ x ≤ big.length ∧ r.2.2.1 = nI (i0 + x) ∧ fdG (big.take x) [] = []) ∧ (r.1 = 23 → ∃ x r', x ≤ k0 + k ∧ big[x]? = some r' ∧ r'.1 = 2 ∧ r.2.2.1 = nI (i0 + x))
def nJ (r : Row) : Prop := ¬ (r.1 = 21 ∨ r.1 = 22 ∨ r.1 = 23)
/-- STATEMENTS: nothing waits ahead of them and behind them -/
def gdGS (i0 : Nat) (os : List Row) : Prop := sdG os [] ∧ fdG os [] = [] ∧ JTi i0 os 0 os
section MJB21
variable {T : TT} {M : Nat}
theorem tk_add : ∀ (a b : List Row) (x : Nat), (a ++ b).take (a.length + x) = a ++ b.take x
  | [], b, x => by rw [List.nil_append, List.length_nil, Nat.zero_add]; rfl
  | r :: a, b, x => by rw [List.cons_append, List.length_cons, show a.length + 1 + x = (a.length + x) + 1 by omega, List.take_succ_cons, tk_add a b x]; rfl
theorem tk_le : ∀ (a b : List Row) (x : Nat), x ≤ a.length → (a ++ b).take x = a.take x
  | a, b, 0, _ => by rw [List.take_zero, List.take_zero]
  | [], b, x + 1, h => by rw [List.length_nil] at h; omega
  | r :: a, b, x + 1, h => by
    rw [List.length_cons] at h
    rw [List.cons_append, List.take_succ_cons, List.take_succ_cons, tk_le a b x (by omega)]
theorem JTi.app {i0 k0 : Nat} {big a b : List Row} (ha : JTi i0 big k0 a) (hb : JTi i0 big (k0 + a.length) b) : JTi i0 big k0 (a ++ b) := by
  intro k r hk
  by_cases g : k < a.length
  · rw [List.getElem?_append_left g] at hk
    exact ha k r hk
  · rw [List.getElem?_append_right (by omega)] at hk
    have := hb (k - a.length) r hk
    rw [show k0 + a.length + (k - a.length) = k0 + k by omega] at this
    exact this
theorem JTi.nj {i0 k0 : Nat} {big os : List Row} (h : ∀ r, r ∈ os → nJ r) : JTi i0 big k0 os := by
  intro k r hk
  have := h r (List.mem_of_getElem? hk)
  exact ⟨fun e => absurd (e.elim Or.inl (fun e => Or.inr (Or.inl e))) this, fun e => absurd (Or.inr (Or.inr e)) this⟩
theorem JTi.one {i0 k0 : Nat} {big : List Row} {r : Row} (h1 : r.1 = 21 ∨ r.1 = 22 → ∃ x, k0 < x ∧ x ≤ big.length ∧ r.2.2.1 = nI (i0 + x) ∧ fdG (big.take x) [] = []) (h2 : r.1 = 23 → ∃ x r', x ≤ k0 ∧ big[x]? = some r' ∧ r'.1 = 2 ∧ r.2.2.1 = nI (i0 + x)) : JTi i0 big k0 [r] := by
  intro k y hk
  have hl := (List.getElem?_eq_some_iff.mp hk).1
  rw [List.length_singleton] at hl
  rw [show k = 0 by omega] at hk ⊢
  have e : r = y := by simpa using hk
  rw [← e]
  exact ⟨h1, h2⟩
theorem JTi.sub {i0 : Nat} {a os c : List Row} (h : JTi (i0 + a.length) os 0 os) (ha : fdG a [] = []) : JTi i0 (a ++ (os ++ c)) a.length os := by
  intro k r hk
  obtain ⟨h1, h2⟩ := h k r hk
  refine ⟨fun e => ?_, fun e => ?_⟩
  · obtain ⟨x, x1, x2, x3, x4⟩ := h1 e
    refine ⟨a.length + x, by omega, by rw [List.length_append, List.length_append]; omega, by rw [x3, Nat.add_assoc], ?_⟩
    rw [tk_add, tk_le _ _ _ x2, fdG_app, ha]
    exact x4
  · obtain ⟨x, r', x1, x2, x3, x4⟩ := h2 e
    have xl := (List.getElem?_eq_some_iff.mp x2).1
    refine ⟨a.length + x, r', by omega, ?_, x3, by rw [x4, Nat.add_assoc]⟩
    rw [List.getElem?_append_right (by omega), show a.length + x - a.length = x by omega, List.getElem?_append_left xl]
    exact x2
theorem gdGS.app {i0 : Nat} {a b : List Row} (ha : gdGS i0 a) (hb : gdGS (i0 + a.length) b) : gdGS i0 (a ++ b) := by
  obtain ⟨a1, a2, a3⟩ := ha
  obtain ⟨b1, b2, b3⟩ := hb
  refine ⟨by rw [sdG_app, a2]; exact ⟨a1, b1⟩, by rw [fdG_app, a2]; exact b2, JTi.app ?_ ?_⟩
  · have := JTi.sub (i0 := i0) (a := []) (os := a) (c := b) a3 rfl
    exact this
  · have := JTi.sub (i0 := i0) (a := a) (os := b) (c := []) b3 a2
    rw [List.append_nil] at this
    rw [Nat.zero_add]
    exact this
theorem gdGS.nil {i0 : Nat} : gdGS i0 [] := ⟨trivial, rfl, fun k r h => by cases h⟩
theorem gdGS.one {i0 : Nat} {r : Row} (h : r.1 = 1 ∨ r.1 = 2 ∨ r.1 = 19 ∨ r.1 = 26 ∨ r.1 = 27) : gdGS i0 [r] := by
  refine ⟨⟨okG.n (by rcases h with h | h | h | h | h <;> rw [h] <;> decide), trivial⟩, nxG_n (by rcases h with h | h | h | h | h <;> rw [h] <;> decide) _, JTi.nj (fun y hy => ?_)⟩
  have e : y = r := by simpa using hy
  rw [e]
  unfold nJ
  rcases h with h | h | h | h | h <;> rw [h] <;> decide
theorem gdGS.cons {i0 : Nat} {r : Row} {os : List Row} (h : r.1 = 1 ∨ r.1 = 2 ∨ r.1 = 19 ∨ r.1 = 26 ∨ r.1 = 27) (ho : gdGS (i0 + 1) os) : gdGS i0 (r :: os) := gdGS.app (a := [r]) (gdGS.one h) ho
theorem gdGS.snoc {i0 : Nat} {r : Row} {os : List Row} (ho : gdGS i0 os) (h : r.1 = 1 ∨ r.1 = 2 ∨ r.1 = 19 ∨ r.1 = 26 ∨ r.1 = 27) : gdGS i0 (os ++ [r]) := ho.app (gdGS.one h)
theorem scE_isE {H P Q : Nat} : ∀ (l : List Row) (x : HS), scE H P Q l x → ∀ r, r ∈ l → isE r
  | [], _, _, r, h => by cases h
  | a :: l, x, hs, r, h => by
    rcases List.mem_cons.mp h with e | e
    · rw [e]; exact hs.1.1
    · exact scE_isE l _ hs.2 r e
theorem isE.nj {r : Row} (h : isE r) : nJ r := by
  unfold nJ
  rcases h with h | h | h | h | h | h | h | h | h | h | h | h | h <;> rw [h] <;> decide
theorem prV_nj {o c kq : Nat} {y : PZ} (ho : o ≤ 12) (h : prV T M o c kq = .inr y) : ∀ r, r ∈ y.2.2.2.1 → nJ r := fun r hr => (scE_isE _ _ ((prV_gd ho h).2 0 [] 0 60 20 120 (by omega) (by show 0 + 12 ≤ 20; omega) (by omega)).1 r hr).nj
theorem nj_app {a b : List Row} (ha : ∀ r, r ∈ a → nJ r) (hb : ∀ r, r ∈ b → nJ r) : ∀ r, r ∈ a ++ b → nJ r := fun r hr => (List.mem_append.mp hr).elim (ha r) (hb r)
theorem nj_one {r : Row} (h : nJ r) : ∀ y, y ∈ [r] → nJ y := fun y hy => by
  have e : y = r := by simpa using hy
  rw [e]
  exact h
/-- an E and an order that takes its value -/
theorem gdGS.pop {i0 : Nat} {os : List Row} {r : Row} (hg : gdG os) (hn : ∀ y, y ∈ os → nJ y) (h : r.1 = 20 ∨ r.1 = 24 ∨ r.1 = 25 ∨ (r.1 = 28 ∧ r.2.2.1 = 1)) : gdGS i0 (os ++ [r]) := by
  obtain ⟨a1, a2⟩ := hg []
  refine ⟨by rw [sdG_app, a2]; exact ⟨a1, okG.o (by rcases h with h | h | h | h; exact Or.inl h; exact Or.inr (Or.inr (Or.inl h)); exact Or.inr (Or.inr (Or.inr (Or.inl h))); exact Or.inr (Or.inr (Or.inr (Or.inr h)))), trivial⟩, ?_, JTi.nj (nj_app hn (nj_one ?_))⟩
  · rw [fdG_app, a2]
    exact nxG_o (by rcases h with h | h | h | h; exact Or.inl h; exact Or.inr (Or.inr (Or.inl h)); exact Or.inr (Or.inr (Or.inr (Or.inl h))); exact Or.inr (Or.inr (Or.inr (Or.inr h.1)))) _
  · unfold nJ
    rcases h with h | h | h | h
    · rw [h]; decide
    · rw [h]; decide
    · rw [h]; decide
    · rw [h.1]; decide
theorem pDecl_gg {o c td kq i0 : Nat} {y : PB} (ho : o ≤ 12) (h : pDecl T M o c td kq = .inr y) : gdGS i0 y.2.2.2.1 := by
  unfold pDecl at h
  cases hp : pType T c with
  | inl x => rw [hp] at h; cases h
  | inr c1 =>
    rw [hp] at h
    dsimp only at h
    by_cases h3 : (T c1).1 = 3
    · rw [if_pos h3] at h
      by_cases t16 : td = 16
      · rw [if_pos t16] at h; cases h
      rw [if_neg t16] at h
      by_cases h61 : (T (c1 + 1)).1 = 61
      · rw [if_pos h61] at h
        cases hv : prV T M o (c1 + 2) (kq + (if (T c).1 = 10 then 0 else 1)) with
        | inl x => rw [hv] at h; cases h
        | inr v =>
          rw [hv] at h
          dsimp only at h
          by_cases h59 : (T v.1).1 = 59
          · rw [if_pos h59] at h
            cases h
            have key : ∀ (r19 r20 : Row), r19.1 = 19 → r20.1 = 20 → gdGS i0 (oLine T c :: r19 :: (v.2.2.2.1 ++ [r20])) := fun r19 r20 e1 e2 => gdGS.cons (Or.inl rfl) (gdGS.cons (Or.inr (Or.inr (Or.inl e1))) (gdGS.pop (prV_gg hv) (prV_nj ho hv) (Or.inl e2)))
            by_cases g10 : (T c).1 = 10
            · simp only [if_pos g10]
              exact key _ _ rfl rfl
            · simp only [if_neg g10]
              exact key _ _ rfl rfl
          · rw [if_neg h59] at h; cases h
      · rw [if_neg h61] at h; cases h
    · rw [if_neg h3] at h; cases h
/-- a test and a BLOCK -/
theorem gdGS.grd {i0 : Nat} {v w : List Row} {l r : Row} (hl : l.1 = 1 ∨ l.1 = 2) (hg : gdG v) (hn : ∀ y, y ∈ v → nJ y) (hr : r.1 = 21) (hw : gdGS (i0 + 1 + v.length + 1) w) (ha : r.2.2.1 = nI (i0 + (1 + v.length + 1 + w.length))) : gdGS i0 (l :: (v ++ r :: w)) := by
  obtain ⟨a1, a2⟩ := hg []
  obtain ⟨w1, w2, w3⟩ := hw
  have e : l :: (v ++ r :: w) = ([l] ++ v ++ [r]) ++ (w ++ []) := by simp
  have p1 : sdG ([l] ++ v ++ [r]) [] ∧ fdG ([l] ++ v ++ [r]) [] = [] := by
    have l1 : fdG [l] [] = [] := nxG_n (by rcases hl with h | h <;> rw [h] <;> decide) _
    have f : fdG ([l] ++ v) [] = [(0, 0, 0)] := by rw [fdG_app, l1, a2]
    rw [sdG_app, sdG_app, fdG_app ([l] ++ v), f, l1]
    exact ⟨⟨⟨⟨okG.n (by rcases hl with h | h <;> rw [h] <;> decide), trivial⟩, a1⟩, okG.o (Or.inr (Or.inl hr)), trivial⟩, nxG_o (Or.inr (Or.inl hr)) _⟩
  have pl : ([l] ++ v ++ [r]).length = 1 + v.length + 1 := by simp; omega
  have full : sdG (([l] ++ v ++ [r]) ++ (w ++ [])) [] ∧ fdG (([l] ++ v ++ [r]) ++ (w ++ [])) [] = [] := by
    rw [List.append_nil, sdG_app, fdG_app ([l] ++ v ++ [r]) w, p1.2]
    exact ⟨⟨p1.1, w1⟩, w2⟩
  rw [e]
  refine ⟨full.1, full.2, JTi.app (JTi.app (JTi.nj (nj_app (nj_one ?_) hn)) (JTi.one (fun _ => ?_) (fun h => absurd (hr.symm.trans h) (by decide)))) ?_⟩
  · unfold nJ
    rcases hl with h | h <;> rw [h] <;> decide
  · refine ⟨1 + v.length + 1 + w.length, ?_, ?_, ha, ?_⟩
    · simp; omega
    · rw [List.append_nil, List.length_append, pl]; exact Nat.le_refl _
    · have : (([l] ++ v ++ [r]) ++ (w ++ [])).length = 1 + v.length + 1 + w.length := by rw [List.append_nil, List.length_append, pl]
      rw [← this, List.take_length]
      exact full.2
  · rw [Nat.zero_add]
    have := JTi.sub (i0 := i0) (a := [l] ++ v ++ [r]) (os := w) (c := []) (by rw [pl, ← Nat.add_assoc, ← Nat.add_assoc]; exact w3) p1.2
    exact JTi.app this (JTi.nj (fun y hy => by cases hy))
end MJB21
