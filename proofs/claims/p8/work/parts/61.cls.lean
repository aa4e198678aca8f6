/-! ===== all CLASSES ===== -/
/-- a CLASS: its head, its MEMBERS -/
abbrev CD : Type := HD × List MD
/-- cursor, MEMBERS, KINDS' tokens, orders, calls' arguments -/
abbrev PM : Type := Nat × List MD × List Nat × List Row × List (Nat × Nat)
def pMems (T : TT) (M kq i0 : Nat) : Nat → PM → (Nat × Nat) ⊕ PM
  | 0, z => .inr z
  | f + 1, z => if tyS (T z.1).1 = true then (match pMem T M z.2.1.length z.1 (kq + z.2.2.1.length) (i0 + z.2.2.2.1.length) with
    | .inl e => .inl e
    | .inr r => pMems T M kq i0 f (r.1, z.2.1 ++ [r.2.1], z.2.2.1 ++ r.2.2.1, z.2.2.2.1 ++ r.2.2.2.1, z.2.2.2.2 ++ r.2.2.2.2)) else .inr z
/-- the KIND behind is -/
def hdK (hd : HD) : List Nat := if hd.2.2.1 = 0 then [] else [hd.2.2.1]
abbrev PC : Type := Nat × List CD × List Nat × List Row × List (Nat × Nat)
def pClass (T : TT) (M n c kq i0 : Nat) : (Nat × Nat) ⊕ (Nat × CD × List Nat × List Row × List (Nat × Nat)) :=
  (match pHead T n c with
  | .inl e => .inl e
  | .inr h => (match pMems T M (kq + (hdK h.2).length) i0 25 (h.1, [], [], [], []) with
    | .inl e => .inl e
    | .inr z => if (T z.1).1 = 125 then .inr (z.1 + 1, (h.2, z.2.1), hdK h.2 ++ z.2.2.1, z.2.2.2.1, z.2.2.2.2) else .inl (F2 T z.1)))
def pClasses (T : TT) (M kq : Nat) : Nat → PC → (Nat × Nat) ⊕ PC
  | 0, z => .inr z
  | f + 1, z => if (T z.1).1 = 5 then (match pClass T M z.2.1.length z.1 (kq + z.2.2.1.length) z.2.2.2.1.length with
    | .inl e => .inl e
    | .inr r => pClasses T M kq f (r.1, z.2.1 ++ [r.2.1], z.2.2.1 ++ r.2.2.1, z.2.2.2.1 ++ r.2.2.2.1, z.2.2.2.2 ++ r.2.2.2.2)) else .inr z
/-- a TEXT: CLASSES; main's BLOCK's token and VARIABLES; KINDS' tokens; orders; arguments; where main's orders begin -/
abbrev PT : Type := List CD × (Nat × Nat) × List Nat × List Row × List (Nat × Nat) × Nat
def pText (T : TT) (M kq : Nat) : (Nat × Nat) ⊕ PT :=
  (match pClasses T M kq 17 (0, [], [], [], []) with
  | .inl e => .inl e
  | .inr z => if (T z.1).1 = 9 then (match prS T M 30 0 0 (z.1 + 1) 0 (kq + z.2.2.1.length) z.2.2.2.1.length with
      | .inl e => .inl e
      | .inr b => if (T b.1).1 = 0 then .inr (z.2.1, (z.1 + 1, b.2.1), z.2.2.1 ++ b.2.2.1, z.2.2.2.1 ++ b.2.2.2.1 ++ [oOver], z.2.2.2.2 ++ b.2.2.2.2, z.2.2.2.1.length) else .inl (F2 T b.1))
    else .inl (F2 T z.1))
/-- how many METHODS (true) or FIELDS (false) there are -/
def cntB (b : Bool) (l : List MD) : Nat := (l.filter (fun md => md.2.2.1 == b)).length
theorem cntB_app (b : Bool) (l : List MD) (md : MD) : cntB b (l ++ [md]) = cntB b l + bn (md.2.2.1 == b) := by
  unfold cntB bn
  rw [List.filter_append, List.length_append]
  cases h : (md.2.2.1 == b) <;> simp [List.filter, h]
def nMem (L : List CD) : Nat := (L.map (fun D => D.2.length)).sum
theorem nMem_app (L : List CD) (D : CD) : nMem (L ++ [D]) = nMem L + D.2.length := by
  unfold nMem
  rw [List.map_append, List.sum_append]
  rfl
/-- the rows of the MEMBERS read -/
def MFs (q ci fm : Nat) (s : mjSt3) (l : List MD) : Prop := ∀ (j : Nat) (md : MD), l[j]? = some md → MF q ci (fm + j) (cntB md.2.2.1 (l.take j)) s md
/-- a CLASS's rows -/
def CF (T : TT) (q c fm : Nat) (s : mjSt3) (D : CD) : Prop := HF T q c fm s D.1 ∧ s.1 (q + 10) c = nI D.2.length ∧ s.1 (q + 6) c = nI (cntB true D.2) ∧ s.1 (q + 7) c = nI (cntB false D.2) ∧ MFs q c fm s D.2
/-- nothing is put yet -/
def Fr (q c fm : Nat) (s : mjSt3) : Prop := (∀ j, c ≤ j → j < 16 → s.1 (q + 1) j = 0 ∧ s.1 (q + 3) j = 0 ∧ s.1 (q + 6) j = 0 ∧ s.1 (q + 7) j = 0 ∧ s.1 (q + 10) j = 0) ∧ ∀ j, fm ≤ j → j < 384 → s.1 (q + 18) j = 0 ∧ s.1 (q + 20) j = 0
/-- the rows of the CLASSES read -/
def CI (T : TT) (q : Nat) (s : mjSt3) (L : List CD) : Prop := s.1 q 0 = nI L.length ∧ s.1 (q + 14) 0 = nI (nMem L) ∧ Fr q L.length (nMem L) s ∧ ∀ (c : Nat) (D : CD), L[c]? = some D → CF T q c (nMem (L.take c)) s D
theorem MF.off {q ci c m num fm : Nat} {s s' : mjSt3} {md : MD} (hq : isP q) (h : MF q c m num s md) (o : offR q ci fm s s') (hm : m < fm) : MF q c m num s' md := by
  have hq' : q = 2 ∨ q = 30 := hq
  obtain ⟨a1, a2, a3, a4, a5, a6, a7, a8⟩ := h
  refine ⟨?_, ?_, ?_, ?_, ?_, ?_, ?_, fun t => ⟨?_, ?_⟩⟩
  · rw [o.1 (q + 16) m (by unfold chR; omega), a1]
  · rw [o.1 68 m (by unfold chR; omega), a2]
  · rw [o.1 69 m (by unfold chR; omega), a3]
  · rw [o.2.1 (q + 15) m (by omega), o.2.1 62 md.2.1 (by omega), a4]
  · rw [o.1 (q + 18) m (by unfold chR; omega), a5]
  · rw [o.1 (q + 19) m (by unfold chR; omega), a6]
  · rw [o.1 (q + 20) m (by unfold chR; omega), a7]
  · rw [o.1 70 m (by unfold chR; omega), (a8 t).1]
  · rw [o.1 (q + 22) m (by unfold chR; omega), (a8 t).2]
theorem CF.off {T : TT} {q ci c fm f2 : Nat} {s s' : mjSt3} {D : CD} (hq : isP q) (h : CF T q c f2 s D) (o : offR q ci fm s s') (hc : c < ci) (hm : f2 + D.2.length ≤ fm) : CF T q c f2 s' D := by
  have hq' : q = 2 ∨ q = 30 := hq
  obtain ⟨⟨a1, a2, a3, a4, a5, a6, a7⟩, b1, b2, b3, b4⟩ := h
  refine ⟨⟨?_, ?_, ?_, ?_, ?_, ?_, ?_⟩, ?_, ?_, ?_, fun j md hj => ?_⟩
  · rw [o.1 (q + 9) c (by unfold chR; omega), a1]
  · rw [o.1 65 c (by unfold chR; omega), a2]
  · rw [o.1 (q + 2) c (by unfold chR; omega), a3]
  · rw [o.1 (q + 1) c (by unfold chR; omega), a4]
  · rw [o.1 66 c (by unfold chR; omega), a5]
  · rw [o.1 (q + 3) c (by unfold chR; omega), a6]
  · rw [o.1 67 c (by unfold chR; omega)]; exact a7
  · rw [o.1 (q + 10) c (by unfold chR; omega), b1]
  · rw [o.1 (q + 6) c (by unfold chR; omega), b2]
  · rw [o.1 (q + 7) c (by unfold chR; omega), b3]
  · have := (List.getElem?_eq_some_iff.mp hj).1
    exact (b4 j md hj).off hq o (by omega)
theorem nMem_take {L : List CD} {c : Nat} {D : CD} (h : L[c]? = some D) : nMem (L.take c) + D.2.length ≤ nMem L := by
  obtain ⟨hc, e⟩ := List.getElem?_eq_some_iff.mp h
  have a : L = L.take c ++ D :: L.drop (c + 1) := by
    rw [← e, ← List.drop_eq_getElem_cons hc, List.take_append_drop]
  have b : nMem L = nMem (L.take c) + (D.2.length + nMem (L.drop (c + 1))) := by
    conv => lhs; rw [a]
    unfold nMem
    rw [List.map_append, List.sum_append, List.map_cons, List.sum_cons]
  omega
/-- while the MEMBERS of CLASS ci are read -/
def MI (T : TT) (q ci fm : Nat) (s : mjSt3) (hd : HD) (l : List MD) : Prop := HF T q ci fm s hd ∧ s.1 q 0 = nI (ci + 1) ∧ s.1 (q + 14) 0 = nI (fm + l.length) ∧ s.1 (q + 10) ci = nI l.length ∧ s.1 (q + 6) ci = nI (cntB true l) ∧ s.1 (q + 7) ci = nI (cntB false l) ∧ MFs q ci fm s l ∧ Fr q (ci + 1) (fm + l.length) s
theorem MI.step {T : TT} {q ci fm : Nat} {s s' : mjSt3} {hd : HD} {l : List MD} {md : MD} (hq : isP q) (h : MI T q ci fm s hd l) (r : memR q ci (fm + l.length) l.length (cntB true l) (cntB false l) s s' md) : MI T q ci fm s' hd (l ++ [md]) := by
  have hq' : q = 2 ∨ q = 30 := hq
  obtain ⟨⟨a1, a2, a3, a4, a5, a6, a7⟩, b1, b2, b3, b4, b5, b6, b7⟩ := h
  obtain ⟨o, r1, r2, r3, r4, r5⟩ := r
  have oR : offR q ci (fm + l.length) s s' := o.R (Nat.le_refl _)
  have el : (l ++ [md]).length = l.length + 1 := by rw [List.length_append]; rfl
  refine ⟨⟨?_, ?_, ?_, ?_, ?_, ?_, ?_⟩, ?_, ?_, ?_, ?_, ?_, fun j x hj => ?_, ⟨fun j h1 h2 => ?_, fun j h1 h2 => ?_⟩⟩
  · rw [o.1 (q + 9) ci (by unfold chM; omega), a1]
  · rw [o.1 65 ci (by unfold chM; omega), a2]
  · rw [o.1 (q + 2) ci (by unfold chM; omega), a3]
  · rw [o.1 (q + 1) ci (by unfold chM; omega), a4]
  · rw [o.1 66 ci (by unfold chM; omega), a5]
  · rw [o.1 (q + 3) ci (by unfold chM; omega), a6]
  · rw [o.1 67 ci (by unfold chM; omega)]; exact a7
  · rw [o.1 q 0 (by unfold chM; omega), b1]
  · rw [r2, el, Nat.add_assoc]
  · rw [r3, el]
  · rw [r4, cntB_app]
    cases md.2.2.1 <;> rfl
  · rw [r5, cntB_app]
    cases md.2.2.1 <;> rfl
  · by_cases hl : j < l.length
    · rw [List.getElem?_append_left hl] at hj
      rw [List.take_append_of_le_length (by omega)]
      exact (b6 j x hj).off hq oR (by omega)
    · have hj' := (List.getElem?_eq_some_iff.mp hj).1
      rw [el] at hj'
      have e : j = l.length := by omega
      subst e
      rw [List.getElem?_append_right (Nat.le_refl _), Nat.sub_self] at hj
      have e2 : md = x := by simpa using hj
      subst e2
      rw [List.take_append_of_le_length (Nat.le_refl _), List.take_length]
      have r1' : MF q ci (fm + l.length) (if md.2.2.1 = true then cntB true l else cntB false l) s' md := r1
      cases hb : md.2.2.1 with
      | true => rw [hb] at r1'; exact r1'
      | false => rw [hb] at r1'; exact r1'
  · obtain ⟨c1, c2, c3, c4, c5⟩ := b7.1 j h1 h2
    rw [o.1 (q + 1) j (by unfold chM; omega), o.1 (q + 3) j (by unfold chM; omega), o.1 (q + 6) j (by unfold chM; omega), o.1 (q + 7) j (by unfold chM; omega), o.1 (q + 10) j (by unfold chM; omega)]
    exact ⟨c1, c2, c3, c4, c5⟩
  · rw [el] at h1
    obtain ⟨c1, c2⟩ := b7.2 j (by omega) h2
    rw [o.1 (q + 18) j (by unfold chM; omega), o.1 (q + 20) j (by unfold chM; omega)]
    exact ⟨c1, c2⟩
