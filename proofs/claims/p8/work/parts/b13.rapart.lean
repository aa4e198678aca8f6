/-! ===== the METHODS' orders stand apart ===== -/
/-- each METHOD's orders begin at its number and end at an OVER ahead of the next METHOD's, all below n -/
def OSt (os : List Row) (l : List MD) (n : Nat) : Prop := ∀ (j : Nat) (md : MD), l[j]? = some md → md.2.2.1 = true → ∃ e, md.2.2.2.2.2.2.1 ≤ e ∧ e < n ∧ os[e]? = some oOver ∧ ∀ (j' : Nat) (md' : MD), j < j' → l[j']? = some md' → md'.2.2.1 = true → e < md'.2.2.2.2.2.2.1
section MJB13
variable {T : TT} {M : Nat}
theorem OSt.snoc {os : List Row} {l : List MD} {md : MD} (h : OSt os l os.length) (oa : List Row) (hm : md.2.2.1 = true → md.2.2.2.2.2.2.1 = os.length ∧ ∃ a, oa = a ++ [oOver]) : OSt (os ++ oa) (l ++ [md]) (os ++ oa).length := by
  intro j x hx hb
  by_cases g : j < l.length
  · rw [List.getElem?_append_left g] at hx
    obtain ⟨e, e1, e2, e3, e4⟩ := h j x hx hb
    refine ⟨e, e1, by rw [List.length_append]; omega, by rw [List.getElem?_append_left e2]; exact e3, fun j' y hj hy hy' => ?_⟩
    by_cases g' : j' < l.length
    · rw [List.getElem?_append_left g'] at hy
      exact e4 j' y hj hy hy'
    · have hl := (List.getElem?_eq_some_iff.mp hy).1
      rw [List.length_append, List.length_singleton] at hl
      rw [show j' = l.length by omega, List.getElem?_append_right (Nat.le_refl _), Nat.sub_self] at hy
      have ey : md = y := by simpa using hy
      rw [← ey] at hy' ⊢
      rw [(hm hy').1]
      exact e2
  · have hl := (List.getElem?_eq_some_iff.mp hx).1
    rw [List.length_append, List.length_singleton] at hl
    have ej : j = l.length := by omega
    rw [ej, List.getElem?_append_right (Nat.le_refl _), Nat.sub_self] at hx
    have ex : md = x := by simpa using hx
    rw [← ex] at hb ⊢
    obtain ⟨h1, a, h2⟩ := hm hb
    refine ⟨os.length + a.length, by omega, by rw [h2, List.length_append, List.length_append, List.length_singleton]; omega, ?_, fun j' y hj hy _ => ?_⟩
    · rw [List.getElem?_append_right (by omega), show os.length + a.length - os.length = a.length by omega, h2, List.getElem?_append_right (Nat.le_refl _), Nat.sub_self]
      rfl
    · have hl' := (List.getElem?_eq_some_iff.mp hy).1
      rw [List.length_append, List.length_singleton] at hl'
      omega
theorem pMem_st {k c kq i0 : Nat} {r : PR} (h : pMem T M k c kq i0 = .inr r) {os : List Row} {l : List MD} (ho : os.length = i0) (H : OSt os l os.length) : OSt (os ++ r.2.2.2.1) (l ++ [r.2.1]) (os ++ r.2.2.2.1).length := by
  refine H.snoc _ ?_
  unfold pMem at h
  by_cases e24 : k = 24
  · rw [if_pos e24] at h; cases h
  rw [if_neg e24] at h
  cases hp : pType T c with
  | inl e => rw [hp] at h; cases h
  | inr c1 =>
    rw [hp] at h
    dsimp only at h
    by_cases g3 : (T c1).1 = 3
    · rw [if_pos g3] at h
      by_cases g59 : (T (c1 + 1)).1 = 59
      · rw [if_pos g59] at h
        cases h
        intro hb
        cases hb
      · rw [if_neg g59] at h
        cases hq : pParams T (kq + (tyL T c).length) (c1 + 1) with
        | inl e => rw [hq] at h; cases h
        | inr y =>
          rw [hq] at h
          dsimp only at h
          cases hz : prS T M 30 0 1 y.1 y.2.1.length (kq + (tyL T c).length + y.2.2.length) i0 with
          | inl e => rw [hz] at h; cases h
          | inr z =>
            rw [hz] at h
            cases h
            exact fun _ => ⟨ho.symm, z.2.2.2.1, rfl⟩
    · rw [if_neg g3] at h; cases h
theorem pMems_st {kq i0 : Nat} : ∀ (f : Nat) (z y : PM), pMems T M kq i0 f z = .inr y → ∀ (pre : List Row) (pm : List MD), pre.length = i0 → OSt (pre ++ z.2.2.2.1) (pm ++ z.2.1) (pre ++ z.2.2.2.1).length → OSt (pre ++ y.2.2.2.1) (pm ++ y.2.1) (pre ++ y.2.2.2.1).length
  | 0, z, y, h, pre, pm, hp, H => by
    cases h
    exact H
  | f + 1, z, y, h, pre, pm, hp, H => by
    unfold pMems at h
    by_cases g : tyS (T z.1).1 = true
    · rw [if_pos g] at h
      cases hm : pMem T M z.2.1.length z.1 (kq + z.2.2.1.length) (i0 + z.2.2.2.1.length) with
      | inl e => rw [hm] at h; cases h
      | inr r =>
        rw [hm] at h
        dsimp only at h
        have A := pMem_st hm (os := pre ++ z.2.2.2.1) (l := pm ++ z.2.1) (by rw [List.length_append, hp]) H
        rw [List.append_assoc, List.append_assoc] at A
        exact pMems_st f (r.1, z.2.1 ++ [r.2.1], z.2.2.1 ++ r.2.2.1, z.2.2.2.1 ++ r.2.2.2.1, z.2.2.2.2 ++ r.2.2.2.2) y h pre pm hp A
    · rw [if_neg g] at h
      cases h
      exact H
theorem pClass_st {n c kq i0 : Nat} {r : Nat × CD × List Nat × List Row × List (Nat × Nat)} (h : pClass T M n c kq i0 = .inr r) {pre : List Row} {pm : List MD} (hp : pre.length = i0) (H : OSt pre pm pre.length) : OSt (pre ++ r.2.2.2.1) (pm ++ r.2.1.2) (pre ++ r.2.2.2.1).length := by
  unfold pClass at h
  cases hh : pHead T n c with
  | inl e => rw [hh] at h; cases h
  | inr hd =>
    rw [hh] at h
    dsimp only at h
    cases hm : pMems T M (kq + (hdK hd.2).length) i0 25 (hd.1, [], [], [], []) with
    | inl e => rw [hm] at h; cases h
    | inr z =>
      rw [hm] at h
      dsimp only at h
      by_cases g : (T z.1).1 = 125
      · rw [if_pos g] at h
        cases h
        exact pMems_st 25 _ z hm pre pm hp (by
          show OSt (pre ++ []) (pm ++ []) (pre ++ []).length
          rw [List.append_nil, List.append_nil]
          exact H)
      · rw [if_neg g] at h; cases h
theorem pClasses_st {kq : Nat} : ∀ (f : Nat) (z y : PC), pClasses T M kq f z = .inr y → OSt z.2.2.2.1 (mmD z.2.1) z.2.2.2.1.length → OSt y.2.2.2.1 (mmD y.2.1) y.2.2.2.1.length
  | 0, z, y, h, H => by
    cases h
    exact H
  | f + 1, z, y, h, H => by
    unfold pClasses at h
    by_cases g : (T z.1).1 = 5
    · rw [if_pos g] at h
      cases hm : pClass T M z.2.1.length z.1 (kq + z.2.2.1.length) z.2.2.2.1.length with
      | inl e => rw [hm] at h; cases h
      | inr r =>
        rw [hm] at h
        dsimp only at h
        have A := pClass_st hm rfl H
        rw [← mmD_snoc] at A
        exact pClasses_st f (r.1, z.2.1 ++ [r.2.1], z.2.2.1 ++ r.2.2.1, z.2.2.2.1 ++ r.2.2.2.1, z.2.2.2.2 ++ r.2.2.2.2) y h A
    · rw [if_neg g] at h
      cases h
      exact H
theorem pText_st {kq : Nat} {t : PT} (h : pText T M kq = .inr t) : OSt t.2.2.2.1 (mmD t.1) t.2.2.2.2.2 := by
  unfold pText at h
  cases hc : pClasses T M kq 17 (0, [], [], [], []) with
  | inl e => rw [hc] at h; cases h
  | inr y =>
    rw [hc] at h
    dsimp only at h
    have A := pClasses_st 17 _ y hc (fun j md hj => by
      have hj' : ([] : List MD)[j]? = some md := hj
      cases hj')
    by_cases g9 : (T y.1).1 = 9
    · rw [if_pos g9] at h
      cases hs : prS T M 30 0 0 (y.1 + 1) 0 (kq + y.2.2.1.length) y.2.2.2.1.length with
      | inl e => rw [hs] at h; cases h
      | inr z =>
        rw [hs] at h
        dsimp only at h
        by_cases g0 : (T z.1).1 = 0
        · rw [if_pos g0] at h
          cases h
          intro j md hj hb
          obtain ⟨e, e1, e2, e3, e4⟩ := A j md hj hb
          refine ⟨e, e1, e2, ?_, e4⟩
          show (y.2.2.2.1 ++ z.2.2.2.1 ++ [oOver])[e]? = some oOver
          rw [List.append_assoc, List.getElem?_append_left e2]
          exact e3
        · rw [if_neg g0] at h; cases h
    · rw [if_neg g9] at h; cases h
end MJB13
