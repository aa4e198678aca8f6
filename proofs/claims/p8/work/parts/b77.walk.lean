/-! ===== WAYS, pure: what is come to, in order ===== -/
/-- the OBJECT that lies in a FIELD, or 0 -/
def hopN (T : TT) (L : List CD) (H : HEAP) (o i : Nat) : Nat := if obT T L (H.2 o).1 i = true then nN ((H.2 o).2.2 i) else 0
/-- an OBJECT, from which (0: none), its place, HOPS -/
abbrev WQ : Type := List (Nat × Nat × Nat × Nat)
def inW (Q : WQ) (o : Nat) : Prop := ∃ e, e ∈ Q ∧ e.1 = o
def inWb (Q : WQ) (o : Nat) : Bool := Q.any (fun e => decide (e.1 = o))
def wCome (Q : WQ) (o fo fi d : Nat) : WQ := if inWb Q o = true then Q else Q ++ [(o, fo, fi, d)]
def wHop (T : TT) (L : List CD) (H : HEAP) (sh fo fi d i : Nat) (Q : WQ) : WQ := if hopN T L H fo i = 0 ∨ hopN T L H fo i = sh then Q else wCome Q (hopN T L H fo i) fo fi (d + 1)
def wSlots (T : TT) (L : List CD) (H : HEAP) (sh fo fi d : Nat) : Nat → Nat → WQ → WQ
  | 0, _, Q => Q
  | r + 1, i, Q => wSlots T L H sh fo fi d r (i + 1) (wHop T L H sh fo fi d i Q)
def wGo (T : TT) (L : List CD) (H : HEAP) (sh : Nat) : Nat → Nat → WQ → WQ
  | 0, _, Q => Q
  | n + 1, k, Q => match Q[k]? with
    | none => Q
    | some e => wGo T L H sh n (k + 1) (wSlots T L H sh e.1 k e.2.2.2 (fldT T L (H.2 e.1).1) 0 Q)
def wRoot (H : HEAP) (sh o : Nat) (Q : WQ) : WQ := if (H.2 o).2.1 0 = 0 ∧ ¬ o = sh then wCome Q o 0 0 0 else Q
def wRoots (H : HEAP) (sh : Nat) : Nat → Nat → WQ → WQ
  | 0, _, Q => Q
  | r + 1, o, Q => wRoots H sh r (o + 1) (wRoot H sh o Q)
/-- from all ROOTS but one; from an OBJECT -/
def walkR (T : TT) (L : List CD) (H : HEAP) (sh : Nat) : WQ := wGo T L H sh (H.1 + 1) 0 (wRoots H sh H.1 1 [])
def walkO (T : TT) (L : List CD) (H : HEAP) (a : Nat) : WQ := wGo T L H 0 (H.1 + 1) 0 [(a, 0, 0, 0)]
def WOK (H : HEAP) (Q : WQ) : Prop := (Q.map (fun e => e.1)).Nodup ∧ (∀ e, e ∈ Q → 1 ≤ e.1 ∧ e.1 ≤ H.1) ∧ ∀ (k : Nat) (e : Nat × Nat × Nat × Nat), Q[k]? = some e → (e.2.1 = 0 ∧ e.2.2.2 = 0) ∨ (1 ≤ e.2.1 ∧ e.2.2.1 < k ∧ ∃ p : Nat × Nat × Nat × Nat, Q[e.2.2.1]? = some p ∧ p.1 = e.2.1 ∧ e.2.2.2 = p.2.2.2 + 1)
section MJB77
variable {T : TT} {N : Nat} {L : List CD} {H : HEAP} {Q : WQ} {o fo fi d sh i k n : Nat}
theorem inWb_iff : inWb Q o = true ↔ inW Q o := by
  unfold inWb inW
  rw [List.any_eq_true]
  constructor
  · intro ⟨e, h1, h2⟩
    exact ⟨e, h1, of_decide_eq_true h2⟩
  · intro ⟨e, h1, h2⟩
    exact ⟨e, h1, decide_eq_true h2⟩
theorem nd_le : ∀ (n : Nat) (l : List Nat), l.Nodup → (∀ x, x ∈ l → 1 ≤ x ∧ x ≤ n) → l.length ≤ n
  | 0, l, _, h => by
    cases l with
    | nil => exact Nat.le_refl _
    | cons a l =>
      have := h a List.mem_cons_self
      omega
  | n + 1, l, nd, h => by
    by_cases g : (n + 1) ∈ l
    · have e := List.length_erase_of_mem g
      have ih := nd_le n (l.erase (n + 1)) (nd.erase _) (fun x hx => by
        have m := (nd.mem_erase_iff).mp hx
        have := h x m.2
        have : ¬ x = n + 1 := m.1
        omega)
      omega
    · have ih := nd_le n l nd (fun x hx => by
        have := h x hx
        have : ¬ x = n + 1 := fun e => g (by rw [← e]; exact hx)
        omega)
      omega
theorem WOK.len (h : WOK H Q) : Q.length ≤ H.1 := by
  have := nd_le H.1 (Q.map (fun e => e.1)) h.1 (fun x hx => by
    obtain ⟨e, e1, e2⟩ := List.mem_map.mp hx
    rw [← e2]
    exact h.2.1 e e1)
  rw [List.length_map] at this
  exact this
theorem WOK.nil : WOK H [] := ⟨List.nodup_nil, fun e he => (by cases he), fun k e he => (by cases he)⟩
theorem come_in : inW (wCome Q o fo fi d) o := by
  unfold wCome
  by_cases g : inWb Q o = true
  · rw [if_pos g]; exact inWb_iff.mp g
  · rw [if_neg g]; exact ⟨_, List.mem_append_right _ (List.mem_singleton.mpr rfl), rfl⟩
theorem come_pre : ∃ R, wCome Q o fo fi d = Q ++ R := by
  unfold wCome
  by_cases g : inWb Q o = true
  · rw [if_pos g]; exact ⟨[], (List.append_nil Q).symm⟩
  · rw [if_neg g]; exact ⟨_, rfl⟩
theorem pre_at {R : WQ} {e : Nat × Nat × Nat × Nat} (h : Q[k]? = some e) : (Q ++ R)[k]? = some e := by
  rw [List.getElem?_append_left (List.getElem?_eq_some_iff.mp h).1]
  exact h
theorem WOK.come (h : WOK H Q) (o1 : 1 ≤ o) (o2 : o ≤ H.1) (hp : (fo = 0 ∧ d = 0) ∨ (1 ≤ fo ∧ ∃ p : Nat × Nat × Nat × Nat, Q[fi]? = some p ∧ p.1 = fo ∧ d = p.2.2.2 + 1)) : WOK H (wCome Q o fo fi d) := by
  unfold wCome
  by_cases g : inWb Q o = true
  · rw [if_pos g]; exact h
  · rw [if_neg g]
    obtain ⟨h1, h2, h3⟩ := h
    refine ⟨?_, fun e he => ?_, fun k e he => ?_⟩
    · rw [List.map_append]
      refine List.nodup_append.mpr ⟨h1, (by simp), fun a ha b hb => ?_⟩
      have eb : b = o := by simpa using hb
      intro e
      obtain ⟨x, x1, x2⟩ := List.mem_map.mp ha
      exact g (inWb_iff.mpr ⟨x, x1, by rw [x2, e, eb]⟩)
    · rcases List.mem_append.mp he with he | he
      · exact h2 e he
      · have e' : e = (o, fo, fi, d) := by simpa using he
        rw [e']
        exact ⟨o1, o2⟩
    · by_cases kl : k < Q.length
      · rw [List.getElem?_append_left kl] at he
        rcases h3 k e he with a | ⟨a1, a2, p, a3, a4, a5⟩
        · exact Or.inl a
        · exact Or.inr ⟨a1, a2, p, pre_at a3, a4, a5⟩
      · rw [List.getElem?_append_right (by omega)] at he
        have kl2 := (List.getElem?_eq_some_iff.mp he).1
        rw [List.length_singleton] at kl2
        rw [show k - Q.length = 0 by omega] at he
        have e' : (o, fo, fi, d) = e := by simpa using he
        rw [← e']
        rcases hp with a | ⟨a1, p, a3, a4, a5⟩
        · exact Or.inl a
        · have pl := (List.getElem?_eq_some_iff.mp a3).1
          exact Or.inr ⟨a1, by show fi < k; omega, p, pre_at a3, a4, a5⟩
/-- a HOP goes to an OBJECT -/
theorem hop_ok (hH : HOK T L H) (hb : H.1 ≤ 4000) (o1 : 1 ≤ o) (o2 : o ≤ H.1) : hopN T L H o i ≤ H.1 ∧ (obT T L (H.2 o).1 i = true → (H.2 o).2.2 i = nI (hopN T L H o i)) := by
  unfold hopN
  by_cases g : obT T L (H.2 o).1 i = true
  · rw [if_pos g]
    have any : ∀ (g : Nat → Bool) n, anyB g n = true → ∃ x, x < n ∧ g x = true := by
      intro g n
      induction n with
      | zero => exact fun e => (by cases e)
      | succ n ih =>
        intro h
        have h' : (anyB g n || g n) = true := h
        rw [Bool.or_eq_true] at h'
        rcases h' with h' | h'
        · obtain ⟨x, x1, x2⟩ := ih h'
          exact ⟨x, by omega, x2⟩
        · exact ⟨n, by omega, h'⟩
    obtain ⟨m, m1, m2⟩ := any _ _ g
    have m2' : (!mSM L m && decide (2 ≤ tyM T L m) && (vwT (nmL L) (abT T L) (H.2 o).1 (hmM L m)).isSome && decide (numM T L m = i)) = true := m2
    rw [Bool.and_eq_true, Bool.and_eq_true, Bool.and_eq_true] at m2'
    obtain ⟨⟨⟨a1, a2⟩, a3⟩, a4⟩ := m2'
    have ms : mSM L m = false := by cases h : mSM L m with
      | true => rw [h] at a1; cases a1
      | false => rfl
    have v := (hH o o1 o2).2.2 m m1 ms a3
    rw [of_decide_eq_true a4] at v
    have ty := of_decide_eq_true a2
    obtain ⟨kk, ek⟩ : ∃ kk, tyM T L m = kk + 2 := ⟨tyM T L m - 2, by omega⟩
    rw [ek] at v
    rcases v with v | ⟨x, x1, x2, x3, _⟩
    · rw [v]
      exact ⟨Nat.zero_le _, fun _ => rfl⟩
    · rw [x3]
      rw [nN_nI (by omega)]
      exact ⟨x2, fun _ => rfl⟩
  · rw [if_neg g]
    exact ⟨Nat.zero_le _, fun e => absurd e g⟩
end MJB77
