/-! ===== the reference's judge: (a) to (e) ===== -/
/-- all that judgeAll changes till (e), in bank b -/
def oJG (b : Nat) : mjSt3 → mjSt3 → Prop := offG (fun h j => (h = 97 ∧ (j = 61 ∨ j = 62 ∨ j = 95)) ∨ ((h = 117 ∨ h = 118) ∧ 128 * b ≤ j ∧ j < 128 * b + 128) ∨ (h = 119 ∧ 784 * b ≤ j ∧ j < 784 * b + 784) ∨ (h = 139 ∧ bkP b j) ∨ (h = 142 ∧ bkP b (j / 5)) ∨ h = 165 ∨ h = 166) (fun _ _ => False)
section MJA83
variable {T : TT} {d N b k t c n m v u a o : Nat} {ks : List Nat} {L : List CD} {s s' : mjSt3} {tr : Bool}
theorem o61.G (h : o61 s s') : oJG b s s' := offG.mono h (fun _ _ x => Or.inl ⟨x.1, by omega⟩) (fun _ _ x => x)
theorem oOv.G (h : oOv s s') : oJG b s s' := offG.mono h (fun _ _ x => x.elim Or.inl (fun x => Or.inr (Or.inr (Or.inr (Or.inr (Or.inr x)))))) (fun _ _ x => x)
theorem oTy.G (h : oTy (bkP b) s s') : oJG b s s' := offG.mono h (fun _ _ x => x.elim (fun x => Or.inl ⟨x.1, by omega⟩) (fun x => Or.inr (Or.inr (Or.inr (x.elim Or.inl (fun x => Or.inr (Or.inl x))))))) (fun _ _ x => x)
theorem oIn.G (hc : c < 16) (h : oIn (16 * b + c) s s') : oJG b s s' := offG.mono h (fun _ _ x => x.elim (fun x => Or.inl ⟨x.1, by omega⟩) (fun x => Or.inr (Or.inl ⟨x.1, by omega, by omega⟩))) (fun _ _ x => x)
theorem oW.G (hc : c < 16) (h : oW (16 * b + c) s s') : oJG b s s' := offG.mono h (fun _ _ x => Or.inr (Or.inr (Or.inl ⟨x.1, by omega, by omega⟩))) (fun _ _ x => x)
theorem fm_n : fmL L L.length = nMem L := by unfold fmL; rw [List.take_length]
theorem fm_ex (hm : m < nMem L) : ∃ c i, c < L.length ∧ i < mcL L c ∧ m = fmL L c + i := by
  obtain ⟨c, D, k, h1, h2, h3, h4⟩ := FL_ex hm
  refine ⟨c, k, (List.getElem?_eq_some_iff.mp h1).1, ?_, h3⟩
  unfold mcL
  rw [h1]
  exact (List.getElem?_eq_some_iff.mp h2).1
/-- the reference's (e) is the class's -/
theorem okE_iff (Ac : ACY T N L) (hh : ∀ m, m < nMem L → hmM L m < L.length) (hom : ∀ a, a < L.length → ∀ key o, omT T L a key = some o → o < nMem L ∧ hmM L o = a ∧ nkM T L o = key) : (∀ m, m < nMem L → OKe2 T L m) ↔ ∀ m, m < nMem L → OKe T L m := by
  have hn := Ac.1
  constructor
  · intro H
    have P : ∀ j m, m < nMem L → ∀ a, upI (upT T L) (j + 1) (hmM L m) = some a → ∀ o, omT T L a (nkM T L m) = some o → mSM L m = true ∧ mSM L o = true := by
      intro j
      induction j using Nat.strongRecOn with
      | ind j ih =>
        intro m hm a ha o ho
        have hc := hh m hm
        obtain ⟨x, hx⟩ : ∃ x, upT T L (hmM L m) = some x := by
          cases hu : upT T L (hmM L m) with
          | some x => exact ⟨x, rfl⟩
          | none =>
            have : (match upT T L (hmM L m) with
              | none => none
              | some y => upI (upT T L) j y) = some a := ha
            rw [hu] at this
            cases this
        have st : ∀ i, upI (upT T L) (i + 1) (hmM L m) = upI (upT T L) i x := by
          intro i
          show (match upT T L (hmM L m) with
            | none => none
            | some y => upI (upT T L) i y) = _
          rw [hx]
        obtain ⟨f, hf⟩ : ∃ f : Nat → Bool, ∀ i, f i = (match upI (upT T L) i x with
          | some a => (omT T L a (nkM T L m)).isSome
          | none => false) := ⟨_, fun _ => rfl⟩
        have fj : f j = true := by
          rw [hf, ← st j, ha]
          show (omT T L a (nkM T L m)).isSome = true
          rw [ho]
          rfl
        cases hq : fnd f (j + 1) with
        | none =>
          have := fnd_none.mp hq j (by omega)
          rw [fj] at this
          cases this
        | some i0 =>
          obtain ⟨q1, q2, q3⟩ := fnd_some.mp hq
          obtain ⟨a1, ha1⟩ : ∃ a1, upI (upT T L) i0 x = some a1 := by
            rw [hf] at q2
            cases hu : upI (upT T L) i0 x with
            | some y => exact ⟨y, rfl⟩
            | none => rw [hu] at q2; cases q2
          obtain ⟨o1, ho1⟩ : ∃ o1, omT T L a1 (nkM T L m) = some o1 := by
            rw [hf, ha1] at q2
            cases hu : omT T L a1 (nkM T L m) with
            | some y => exact ⟨y, rfl⟩
            | none =>
              have q2' : (omT T L a1 (nkM T L m)).isSome = true := q2
              rw [hu] at q2'
              cases q2'
          have xl := up_lt hn hc hx
          have i16 := up_end Ac xl ha1
          have nr : nearM T L m = some o1 := by
            unfold nearM ancM
            rw [hx, anc_find i0 16 x a1 (fun i hi y hy => by
              have := q3 i hi
              rw [hf, hy] at this
              have this' : (omT T L y (nkM T L m)).isSome = false := this
              cases hu : omT T L y (nkM T L m) with
              | none => rfl
              | some z => rw [hu] at this'; cases this') ha1 i16 (Or.inl (by rw [ho1]; exact fun e => by cases e)), ho1]
          obtain ⟨s1, s2, _⟩ := H m hm o1 nr
          by_cases ej : i0 = j
          · subst ej
            rw [st i0, ha1] at ha
            cases ha
            rw [ho] at ho1
            cases ho1
            exact ⟨s1, s2⟩
          · have al : a1 < L.length := by
              have : upI (upT T L) (i0 + 1) (hmM L m) = some a1 := by rw [st]; exact ha1
              obtain ⟨v, v1, v2⟩ := chn_ex hn hc (i0 + 1) a1 this
              rw [← v2]
              exact (chn_v hn hc (i0 + 1) v v1).cl hn
            obtain ⟨p1, p2, p3⟩ := hom a1 al _ o1 ho1
            have e1 : upI (upT T L) (j - i0 - 1 + 1) (hmM L o1) = some a := by
              rw [p2]
              have : upI (upT T L) j x = upI (upT T L) (i0 + (j - i0)) x := by rw [show i0 + (j - i0) = j by omega]
              rw [st j, this, upI_add, ha1] at ha
              rw [show j - i0 - 1 + 1 = j - i0 by omega]
              exact ha
            obtain ⟨t1, t2⟩ := ih (j - i0 - 1) (by omega) o1 p1 a e1 o (by rw [p3]; exact ho)
            exact ⟨s1, t2⟩
    intro m hm
    refine ⟨fun a ha o ho => ?_, fun o ho => (H m hm o ho).2.2⟩
    unfold ancM at ha
    obtain ⟨x, j, hx, hj, _⟩ := anc_at ha
    refine P j m hm a ?_ o ho
    show (match upT T L (hmM L m) with
      | none => none
      | some y => upI (upT T L) j y) = some a
    rw [hx]
    exact hj
  · intro H m hm o ho
    obtain ⟨h1, h2⟩ := H m hm
    have hmem : ∃ a, a ∈ ancM T L m ∧ omT T L a (nkM T L m) = some o := by
      unfold nearM at ho
      exact List.exists_of_findSome?_eq_some ho
    obtain ⟨a, ha, ha2⟩ := hmem
    exact ⟨(h1 a ha o ha2).1, (h1 a ha o ha2).2, h2 o ho⟩
end MJA83
