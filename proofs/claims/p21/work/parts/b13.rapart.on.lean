section
/-! ===== the METHODS' orders stand apart ===== -/
/-- each METHOD's orders begin at its number and end at an OVER ahead of the next METHOD's, all below n -/
def OSt (os : List Row) (l : List MD) (n : Nat) : Prop := ∀ (j : Nat) (md : MD), l[j]? = some md → md.2.2.1 = true → ∃ e, md.2.2.2.2.2.2.1 ≤ e ∧ e < n ∧ os[e]? = some oOver ∧ ∀ (j' : Nat) (md' : MD), j < j' → l[j']? = some md' → md'.2.2.1 = true → e < md'.2.2.2.2.2.2.1
section MJB13
variable {T : TT} {M : Nat}
theorem OSt.snoc {os : List Row} {l : List MD} {md : MD} (h : OSt os l os.length) (oa : List Row) (hm : md.2.2.1 = true → md.2.2.2.2.2.2.1 = os.length ∧ ∃ a, oa = a ++ [oOver]) : OSt (os ++ oa) (l ++ [md]) (os ++ oa).length := by
  intro j x hx hb
  by_cases g : j < l.length
  · rw [List.getElem?_append_left g] at hx
    obtain ⟨e, e1, e2, e3, e4⟩ := h j x hx hb
    refine ⟨e, e1, by rw [List.length_append]; omega, by rw [List.getElem?_append_left e2]; exact e3, fun j' y hj hy hy' => ?_⟩
    by_cases g' : j' < l.length
    · rw [List.getElem?_append_left g'] at hy
      exact e4 j' y hj hy hy'
    · have hl := (List.getElem?_eq_some_iff.mp hy).1
      rw [List.length_append, List.length_singleton] at hl
      rw [show j' = l.length by omega, List.getElem?_append_right (Nat.le_refl _), Nat.sub_self] at hy
      have ey : md = y := by simpa using hy
      rw [← ey] at hy' ⊢
      rw [(hm hy').1]
      exact e2
  · have hl := (List.getElem?_eq_some_iff.mp hx).1
    rw [List.length_append, List.length_singleton] at hl
    have ej : j = l.length := by omega
    rw [ej, List.getElem?_append_right (Nat.le_refl _), Nat.sub_self] at hx
    have ex : md = x := by simpa using hx
    rw [← ex] at hb ⊢
    obtain ⟨h1, a, h2⟩ := hm hb
    refine ⟨os.length + a.length, by omega, by rw [h2, List.length_append, List.length_append, List.length_singleton]; omega, ?_, fun j' y hj hy _ => ?_⟩
    · rw [List.getElem?_append_right (by omega), show os.length + a.length - os.length = a.length by omega, h2, List.getElem?_append_right (Nat.le_refl _), Nat.sub_self]
      rfl
    · have hl' := (List.getElem?_eq_some_iff.mp hy).1
      rw [List.length_append, List.length_singleton] at hl'
      omega
theorem pMem_st {k c kq i0 : Nat} {r : PR} (h : pMem T M k c kq i0 = .inr r) {os : List Row} {l : List MD} (ho : os.length = i0) (H : OSt os l os.length) : OSt (os ++ r.2.2.2.1) (l ++ [r.2.1]) (os ++ r.2.2.2.1).length := by
  refine H.snoc _ ?_
  unfold pMem at h
  by_cases e24 : k = 24
  · rw [if_pos e24] at h; cases h
  rw [if_neg e24] at h
  cases hp : pType T c with
  | inl e => rw [hp] at h; cases h
  | inr c1 =>
    rw [hp] at h
    dsimp only at h
    by_cases g3 : (T c1).1 = 3
    · rw [if_pos g3] at h
      by_cases g59 : (T (c1 + 1)).1 = 59
      · rw [if_pos g59] at h
        cases h
        intro hb
        cases hb
      · rw [if_neg g59] at h
        cases hq : pParams T (kq + (tyL T c).length) (c1 + 1) with
        | inl e => rw [hq] at h; cases h
        | inr y =>
          rw [hq] at h
          dsimp only at h
          cases hz : prS T M 30 0 1 y.1 y.2.1.length (kq + (tyL T c).length + y.2.2.length) i0 with
          | inl e => rw [hz] at h; cases h
          | inr z =>
            rw [hz] at h
            cases h
            exact fun _ => ⟨ho.symm, z.2.2.2.1, rfl⟩
    · rw [if_neg g3] at h; cases h
theorem pMems_st {kq i0 : Nat} : ∀ (f : Nat) (z y : PM), pMems T M kq i0 f z = .inr y → ∀ (pre : List Row) (pm : List MD), pre.length = i0 → OSt (pre ++ z.2.2.2.1) (pm ++ z.2.1) (pre ++ z.2.2.2.1).length → OSt (pre ++ y.2.2.2.1) (pm ++ y.2.1) (pre ++ y.2.2.2.1).length
  | 0, z, y, h, pre, pm, hp, H => by
    cases h
    exact H
  | f + 1, z, y, h, pre, pm, hp, H => by
    unfold pMems at h
    by_cases g : tyS (T z.1).1 = true
    · rw [if_pos g] at h
      cases hm : pMem T M z.2.1.length z.1 (kq + z.2.2.1.length) (i0 + z.2.2.2.1.length) with
      | inl e => rw [hm] at h; cases h
      | inr r =>
        rw [hm] at h
        dsimp only at h
        have A := pMem_st hm (os := pre ++ z.2.2.2.1) (l := pm ++ z.2.1) (by rw [List.length_append, hp]) H
        rw [List.append_assoc, List.append_assoc] at A
        exact pMems_st f (r.1, z.2.1 ++ [r.2.1], z.2.2.1 ++ r.2.2.1, z.2.2.2.1 ++ r.2.2.2.1, z.2.2.2.2 ++ r.2.2.2.2) y h pre pm hp A
    · rw [if_neg g] at h
      cases h
      exact H
theorem pClass_st {n c kq i0 : Nat} {r : Nat × CD × List Nat × List Row × List (Nat × Nat)} (h : pClass T M n c kq i0 = .inr r) {pre : List Row} {pm : List MD} (hp : pre.length = i0) (H : OSt pre pm pre.length) : OSt (pre ++ r.2.2.2.1) (pm ++ r.2.1.2) (pre ++ r.2.2.2.1).length := by
  unfold pClass at h
  cases hh : pHead T n c with
  | inl e => rw [hh] at h; cases h
  | inr hd =>
    rw [hh] at h
    dsimp only at h
    cases hm : pMems T M (kq + (hdK hd.2).length) i0 25 (hd.1, [], [], [], []) with
    | inl e => rw [hm] at h; cases h
    | inr z =>
      rw [hm] at h
      dsimp only at h
      by_cases g : (T z.1).1 = 125
      · rw [if_pos g] at h
        cases h
        exact pMems_st 25 _ z hm pre pm hp (by
          show OSt (pre ++ []) (pm ++ []) (pre ++ []).length
          rw [List.append_nil, List.append_nil]
          exact H)
      · rw [if_neg g] at h; cases h
theorem pClasses_st {kq : Nat} : ∀ (f : Nat) (z y : PC), pClasses T M kq f z = .inr y → OSt z.2.2.2.1 (mmD z.2.1) z.2.2.2.1.length → OSt y.2.2.2.1 (mmD y.2.1) y.2.2.2.1.length
  | 0, z, y, h, H => by
    cases h
    exact H
  | f + 1, z, y, h, H => by
    unfold pClasses at h
    by_cases g : (T z.1).1 = 5
    · rw [if_pos g] at h
      cases hm : pClass T M z.2.1.length z.1 (kq + z.2.2.1.length) z.2.2.2.1.length with
      | inl e => rw [hm] at h; cases h
      | inr r =>
        rw [hm] at h
        dsimp only at h
        have A := pClass_st hm rfl H
        rw [← mmD_snoc] at A
        exact pClasses_st f (r.1, z.2.1 ++ [r.2.1], z.2.2.1 ++ r.2.2.1, z.2.2.2.1 ++ r.2.2.2.1, z.2.2.2.2 ++ r.2.2.2.2) y h A
    · rw [if_neg g] at h
      cases h
      exact H
theorem pText_st {kq : Nat} {t : PT} (h : pText T M kq = .inr t) : OSt t.2.2.2.1 (mmD t.1) t.2.2.2.2.2 := by
  unfold pText at h
  cases hc : pClasses T M kq 17 (0, [], [], [], []) with
  | inl e => rw [hc] at h; cases h
  | inr y =>
    rw [hc] at h
    dsimp only at h
    have A := pClasses_st 17 _ y hc (fun j md hj => by
      have hj' : ([] : List MD)[j]? = some md := hj
      cases hj')
    by_cases g9 : (T y.1).1 = 9
    · rw [if_pos g9] at h
      cases hs : prS T M 30 0 0 (y.1 + 1) 0 (kq + y.2.2.1.length) y.2.2.2.1.length with
      | inl e => rw [hs] at h; cases h
      | inr z =>
        rw [hs] at h
        dsimp only at h
        by_cases g0 : (T z.1).1 = 0
        · rw [if_pos g0] at h
          cases h
          intro j md hj hb
          obtain ⟨e, e1, e2, e3, e4⟩ := A j md hj hb
          refine ⟨e, e1, e2, ?_, e4⟩
          show (y.2.2.2.1 ++ z.2.2.2.1 ++ [oOver])[e]? = some oOver
          rw [List.append_assoc, List.getElem?_append_left e2]
          exact e3
        · rw [if_neg g0] at h; cases h
    · rw [if_neg g9] at h; cases h
end MJB13
end
section
/-! ===== what is known of each BLOCK ahead of its judge ===== -/
/-- MEMBER m's BLOCK (384: main's): KINDS kq on, orders i0 on -/
def BDf (T : TT) (N b : Nat) (t : PT) (m kq : Nat) (z : PB) : Prop := sdW z.2.2.2.1 (i0T t m) ((kq, 0, [], 0), npT t.1 m, i0T t m + z.2.2.2.1.length, false, 0) ∧ (fdW z.2.2.2.1 (i0T t m) ((kq, 0, [], 0), npT t.1 m, i0T t m + z.2.2.2.1.length, false, 0)).1.1 ≤ kq + z.2.2.1.length ∧ BK T N b t.2.2.1 t.1 (btT t m) z.1 kq z.2.2.1 ∧ SBo t.2.2.2.1 (i0T t m) (z.2.2.2.1 ++ [oOver]) ∧ kq + z.2.2.1.length ≤ 10000
/-- two BLOCKS -/
def BDx (t : PT) (m m' kq kq' : Nat) (z z' : PB) : Prop := (i0T t m + z.2.2.2.1.length < i0T t m' ∨ i0T t m' + z'.2.2.2.1.length < i0T t m) ∧ ∀ X, kq ≤ X → X < kq + z.2.2.1.length → kq' ≤ X → ¬ X < kq' + z'.2.2.1.length
section MJB14
variable {T : TT} {N k0 b kb m m' : Nat} {t : PT} {rs : List RcM} {z : PB}
theorem sdW_28 : ∀ (l : List Row) (i : Nat) (x : WS), sdW l i x → ∀ (j : Nat) (r : Row), l[j]? = some r → r.1 = 28 → ¬ r.2.2.1 = 0
  | [], _, _, _, _, _, h => by cases h
  | a :: l, i, x, sc, 0, r, h => by
    have e : a = r := by simpa using h
    rw [← e]
    exact okW_28 sc.1
  | a :: l, i, x, sc, j + 1, r, h => by
    have h' : l[j]? = some r := h
    exact sdW_28 l (i + 1) (nxW a i x) sc.2 j r h'
/-- a PARAM stands ahead of its METHOD's BLOCK -/
theorem TRc.par (R : TRc T N k0 t rs kb z) (hN : N ≤ 3000) (hk0 : k0 ≤ 1000) {r : RcM} (hr : rs[m]? = some r) {i : Nat} {p : Nat × Nat × Int32} (hp : r.1.2.2.2.1[i]? = some p) : r.1.2.2.1 = true ∧ p.1 < r.1.2.2.2.2.1 ∧ r.1.2.2.2.2.1 < r.2.1 := by
  obtain ⟨⟨q1, q2, q3, q4, q5, q6, q7, q8⟩, _⟩ := R.mok (R.kex hN hk0) (OT_ex (0, 0, 0, 0, 0) _) (AGf_ex _ R.2.2.1 (fun _ => 0)) hr
  rcases q8 with ⟨_, e, _⟩ | ⟨tt, _, _, e, e3, e4, e5, e6, e7, e8, _, _, _, _, _, e14⟩
  · rw [e] at hp; cases hp
  · have hz := (prS_ln 30 0 1 _ _ _ _ _ (by omega) e7).1
    rcases e4 with ⟨_, e4⟩ | e4
    · rw [e, e4] at hp; cases hp
    · rw [e] at hp
      obtain ⟨_, _, _, w4, w5, _⟩ := e4.2.2.2.2 i p hp
      exact ⟨tt, by omega, by omega⟩
/-- a MEMBER stands behind the one ahead of it -/
theorem TRc.lt2 (R : TRc T N k0 t rs kb z) (hN : N ≤ 3000) (hk0 : k0 ≤ 1000) {r r' : RcM} (hr : rs[m]? = some r) (hr' : rs[m']? = some r') (h : m < m') : r.2.1 ≤ r'.1.1 := (R.2.2.2.2.2.2.2.2.2.2 _ _ _ (R.kex hN hk0) (OT_ex (0, 0, 0, 0, 0) _) (AGf_ex _ R.2.2.1 (fun _ => 0))).1.lt h hr hr'
theorem TRc.mlt (R : TRc T N k0 t rs kb z) (hN : N ≤ 3000) (hk0 : k0 ≤ 1000) {r : RcM} (hr : rs[m]? = some r) : r.1.1 < r.2.1 ∧ r.2.1 < t.2.1.1 := by
  obtain ⟨⟨q1, q2, q3, q4, q5, q6, q7, q8⟩, h⟩ := R.mok (R.kex hN hk0) (OT_ex (0, 0, 0, 0, 0) _) (AGf_ex _ R.2.2.1 (fun _ => 0)) hr
  exact ⟨by omega, h⟩
theorem ORB_of (R : TRc T N k0 t rs kb z) (X : TRx t rs) (hk : k0 = 800 * b) (hb : b ≤ 1) (hN : N ≤ 3000) (hm : m ≤ 384) (im : isMT t.1 m = true) : ORB t.1 (btT t m) (zT rs z m).1 := by
  have hk0 : k0 ≤ 1000 := by omega
  have O := ORD_of R X hk hb hN
  obtain ⟨k1, k2, k3, k4, k5, ⟨k6, k6'⟩, k7, k8, k9⟩ := MBk_ex R hk0 hN m hm im
  by_cases e : m = 384
  · have e1 : btT t m = t.2.1.1 := if_pos e
    rw [e1]
    refine ⟨fun m2 hm2 => ?_, fun c hc h0 => ?_⟩
    · obtain ⟨r, hr, er⟩ := R.at hm2
      have l := R.mlt hN hk0 hr
      rw [← er]
      refine ⟨by omega, fun i p hp => ?_⟩
      have hp' : r.1.2.2.2.1[i]? = some p := by rw [er]; exact hp
      have := R.par hN hk0 hr hp'
      omega
    · have := X.lt R.2.2.2.2.2.1 hc h0
      have e2 : abK t c = (hC t.1 c).2.2.1 := rfl
      omega
  · obtain ⟨g1, g2⟩ := isMT_lt im e
    obtain ⟨k10, k11⟩ := k9 e
    obtain ⟨r, hr, er⟩ := R.at g1
    have e5 : enR rs m = r.2.1 := by unfold enR; rw [hr]
    have eb : btT t m = r.1.2.2.2.2.1 := by
      show (if m = 384 then t.2.1.1 else (mdM t.1 m).2.2.2.2.1) = _
      rw [if_neg e, ← er]
    rw [k10, e5]
    refine ⟨fun m2 hm2 => ?_, fun c hc h0 => ?_⟩
    · by_cases l1 : m2 < m
      · have w := O.2.1 m2 m l1 g1
        refine ⟨by have := w.1; omega, fun i p hp => ?_⟩
        have := w.2 i p hp
        omega
      · by_cases l2 : m2 = m
        · subst l2
          refine ⟨by omega, fun i p hp => ?_⟩
          have hp' : r.1.2.2.2.1[i]? = some p := by rw [er]; exact hp
          have := (R.par hN hk0 hr hp').2.1
          omega
        · obtain ⟨r2, hr2, er2⟩ := R.at hm2
          have w := R.lt2 hN hk0 hr hr2 (by omega)
          rw [er2] at w
          refine ⟨by omega, fun i p hp => ?_⟩
          have := ((O.1 m2 hm2).2 i p hp).2.1
          omega
    · have w := X.hr hc h0 hr
      have e2 : abK t c = (hC t.1 c).2.2.1 := rfl
      rw [er] at w
      omega
theorem BDf_of (R : TRc T N k0 t rs kb z) (X : TRx t rs) (hk : k0 = 800 * b) (hb : b ≤ 1) (hN : N ≤ 3000) (h6 : ∀ m, m < nMem t.1 → (psM t.1 m).length ≤ 6) (hm : m ≤ 384) (im : isMT t.1 m = true) : BDf T N b t m (kqT T rs kb m) (zT rs z m) := by
  have hk0 : k0 ≤ 1000 := by omega
  obtain ⟨⟨o, ho, k1⟩, k2, k3, k4, k5, ⟨k6, k6'⟩, k7, k8, k9⟩ := MBk_ex R hk0 hN m hm im
  have n16 : npT t.1 m ≤ 16 := by
    unfold npT
    by_cases e : m = 384
    · rw [if_pos e]; omega
    · rw [if_neg e]
      have := h6 m (isMT_lt im e).1
      omega
  obtain ⟨g1, g2, g3⟩ := prS_gd 30 0 o _ _ _ _ _ (by omega) (by omega) n16 k1
  obtain ⟨lx', s1, s2⟩ := g3 (by omega) (i0T t m + (zT rs z m).2.2.2.1.length) 0
  refine ⟨s1, by rw [s2]; exact Nat.le_refl _, ⟨g2, by rw [← hk]; exact k3, ORB_of R X hk hb hN hm im, by omega⟩, k4, k7⟩
theorem SBo.ov {os l : List Row} {i : Nat} (h : SBo os i (l ++ [oOver])) : os[i + l.length]? = some oOver ∧ ∀ (j : Nat) (r : Row), l[j]? = some r → os[i + j]? = some r := by
  refine ⟨h l.length oOver ?_, fun j r hj => h j r ?_⟩
  · rw [List.getElem?_append_right (Nat.le_refl _), Nat.sub_self]; rfl
  · rw [List.getElem?_append_left (List.getElem?_eq_some_iff.mp hj).1]; exact hj
theorem BDx_lt (R : TRc T N k0 t rs kb z) (X : TRx t rs) (O : OSt t.2.2.2.1 (mmD t.1) t.2.2.2.2.2) (hk : k0 = 800 * b) (hb : b ≤ 1) (hN : N ≤ 3000) (h6 : ∀ m, m < nMem t.1 → (psM t.1 m).length ≤ 6) (hm' : m' ≤ 384) (im : isMT t.1 m = true) (im' : isMT t.1 m' = true) (hl : m < m') : i0T t m + (zT rs z m).2.2.2.1.length < i0T t m' ∧ (zT rs z m).1 ≤ btT t m' := by
  have hk0 : k0 ≤ 1000 := by omega
  have e : ¬ m = 384 := by omega
  obtain ⟨g1, g2⟩ := isMT_lt im e
  obtain ⟨f1, f2, f3, f4, f5⟩ := BDf_of R X hk hb hN h6 (by omega) im
  obtain ⟨_, _, _, _, _, _, _, _, k9⟩ := MBk_ex R hk0 hN m (by omega) im
  obtain ⟨k10, k11⟩ := k9 e
  obtain ⟨r, hr, er⟩ := R.at g1
  have e5 : enR rs m = r.2.1 := by unfold enR; rw [hr]
  obtain ⟨x, x1, x2, x3, x4⟩ := O m (mdM t.1 m) (mmD_at g1) g2
  have ei : i0T t m = (mdM t.1 m).2.2.2.2.2.2.1 := if_neg e
  have xl : i0T t m + (zT rs z m).2.2.2.1.length ≤ x := by
    by_cases q : i0T t m + (zT rs z m).2.2.2.1.length ≤ x
    · exact q
    · have hj : x - i0T t m < (zT rs z m).2.2.2.1.length := by omega
      obtain ⟨y, hy⟩ : ∃ y, (zT rs z m).2.2.2.1[x - i0T t m]? = some y := ⟨_, List.getElem?_eq_getElem hj⟩
      have w := f4.ov.2 _ y hy
      rw [show i0T t m + (x - i0T t m) = x by omega, x3] at w
      have ey : oOver = y := by simpa using w
      exact absurd (show y.2.2.1 = 0 by rw [← ey]; rfl) (sdW_28 _ _ _ f1 _ y hy (by rw [← ey]; rfl))
  by_cases e' : m' = 384
  · have w1 : i0T t m' = t.2.2.2.2.2 := if_pos e'
    have w2 : btT t m' = t.2.1.1 := if_pos e'
    have l := (R.mlt hN hk0 hr).2
    rw [w1, w2, k10, e5]
    exact ⟨by omega, by omega⟩
  · obtain ⟨g3, g4⟩ := isMT_lt im' e'
    have w1 : i0T t m' = (mdM t.1 m').2.2.2.2.2.2.1 := if_neg e'
    have a := x4 m' (mdM t.1 m') hl (mmD_at g3) g4
    obtain ⟨_, _, _, _, _, _, _, _, k9'⟩ := MBk_ex R hk0 hN m' hm' im'
    obtain ⟨k12, k13⟩ := k9' e'
    obtain ⟨r', hr', er'⟩ := R.at g3
    have c := R.lt2 hN hk0 hr hr' hl
    rw [er'] at c
    rw [w1, k10, e5]
    exact ⟨by omega, by omega⟩
theorem BDx_of (R : TRc T N k0 t rs kb z) (X : TRx t rs) (O : OSt t.2.2.2.1 (mmD t.1) t.2.2.2.2.2) (hk : k0 = 800 * b) (hb : b ≤ 1) (hN : N ≤ 3000) (h6 : ∀ m, m < nMem t.1 → (psM t.1 m).length ≤ 6) (hm : m ≤ 384) (hm' : m' ≤ 384) (im : isMT t.1 m = true) (im' : isMT t.1 m' = true) (ne : ¬ m = m') : BDx t m m' (kqT T rs kb m) (kqT T rs kb m') (zT rs z m) (zT rs z m') := by
  obtain ⟨f1, f2, f3, f4, f5⟩ := BDf_of R X hk hb hN h6 hm im
  obtain ⟨h1, h2, h3, h4, h5⟩ := BDf_of R X hk hb hN h6 hm' im'
  have tok : ∀ {M kq : Nat} {y : PB}, BK T N b t.2.2.1 t.1 (btT t M) y.1 kq y.2.2.1 → ∀ x, kq ≤ x → x < kq + y.2.2.1.length → ∃ u, t.2.2.1[x - 800 * b]? = some u ∧ btT t M ≤ u ∧ u < y.1 := by
    intro M kq y B x l1 l2
    obtain ⟨u, hu⟩ : ∃ u, y.2.2.1[x - kq]? = some u := ⟨_, List.getElem?_eq_getElem (show x - kq < y.2.2.1.length by omega)⟩
    obtain ⟨a1, a2, _⟩ := B.1 u (List.mem_of_getElem? hu)
    have a3 := B.2.1.2 (x - kq) u hu
    have a4 := B.2.1.1
    rw [show kq - 800 * b + (x - kq) = x - 800 * b by omega] at a3
    exact ⟨u, a3, a1, a2⟩
  have key : ∀ x, kqT T rs kb m ≤ x → x < kqT T rs kb m + (zT rs z m).2.2.1.length → kqT T rs kb m' ≤ x → x < kqT T rs kb m' + (zT rs z m').2.2.1.length → ∃ u, (btT t m ≤ u ∧ u < (zT rs z m).1) ∧ (btT t m' ≤ u ∧ u < (zT rs z m').1) := by
    intro x l1 l2 l3 l4
    obtain ⟨u, a1, a2⟩ := tok f3 x l1 l2
    obtain ⟨v, c1, c2⟩ := tok h3 x l3 l4
    rw [a1] at c1
    have e : u = v := by simpa using c1
    rw [← e] at c2
    exact ⟨u, a2, c2⟩
  by_cases hl : m < m'
  · have w := BDx_lt R X O hk hb hN h6 hm' im im' hl
    refine ⟨Or.inl w.1, fun x l1 l2 l3 l4 => ?_⟩
    obtain ⟨u, a, c⟩ := key x l1 l2 l3 l4
    have := w.2
    omega
  · have w := BDx_lt R X O hk hb hN h6 hm im' im (show m' < m by omega)
    refine ⟨Or.inr w.1, fun x l1 l2 l3 l4 => ?_⟩
    obtain ⟨u, a, c⟩ := key x l1 l2 l3 l4
    have := w.2
    omega
end MJB14
end
section
/-! ===== the reference: the places of all CLASSES ===== -/
def PLd (T : TT) (L : List CD) (b c : Nat) (s : mjSt3) : Prop := s.1 109 (16 * b + c) = nI (fldT T L c) ∧ s.1 110 (16 * b + c) = nI (mthL L c) ∧ ∀ m, m < nMem L → (vwT (nmL L) (abT T L) c (hmM L m)).isSome = true → PL1 T L b c s m
section MJB15
variable {T : TT} {d N b c m : Nat} {ks : List Nat} {L : List CD} {s s' : mjSt3}
theorem oPs.J (o : oPs b s s') (J : RJ T N b ks L s) : RJ T N b ks L s' := J.off (o.1 97 63 (by omega)) (fun x hx => funext fun j => o.1 x j (by omega)) (funext fun x => funext fun j => o.2.1 x j (fun e => e))
theorem oPs.r (o : oPs b s s') {h : Nat} (hh : ¬ (h = 109 ∨ h = 110 ∨ h = 130 ∨ h = 183 ∨ h = 184)) : s'.1 h = s.1 h := funext fun j => o.1 h j (by omega)
theorem oPs.l (o : oPs b s s') : s'.2 = s.2 := Prod.ext (funext fun x => funext fun j => o.2.1 x j (fun e => e)) o.2.2
theorem PLd_of (Ac : ACY T N L) (hc : c < L.length) (P : PLc T L b c s) : PLd T L b c s := by
  refine ⟨P.1, (P.2 0 c rfl).1, fun m hm v => ?_⟩
  obtain ⟨j, hj⟩ := (vw_iff Ac hc).mp v
  obtain ⟨a, i, h1, h2, h3⟩ := fm_ex hm
  have e := hm_at (L := L) h1 h2
  rw [← h3] at e
  rw [e] at hj
  rw [h3]
  exact (P.2 j a hj).2 i h2
theorem num_384 (Ac : ACY T N L) (J : RJ T N b ks L s) (hm : m < nMem L) (ms : mSM L m = false) : numM T L m < 384 := by
  have h24 : ∀ x, oflL L x ≤ 24 := by
    intro x
    unfold oflL
    cases hx : L[x]? with
    | none => show 0 ≤ 24; omega
    | some D =>
      have := J.2.2.2.2.1 x D hx
      have := cnt_le false D.2
      show cntB false D.2 ≤ 24
      omega
  have fle : fldT T L (hmM L m) ≤ 384 := fsum_le h24 J.len
  have n := num_fld (T := T) hm ms
  have f := ofl_fld (T := T) (c := hmM L m) Ac.1
  omega
theorem L299p_S (R : mjR) (n a : Nat) (x y w : Int32) (hp : mjH) : L_299_218 R (n + 1) a x y w hp = b_299_218 R (L_299_218 R n) a x y w hp := rfl
theorem lq_299p (Ac : ACY T N L) : ∀ (r c n : Nat) (s : mjSt3), c + r = L.length → r < n → RJ T N b ks L s → QV T L b (nMem L) s → (∀ x, x < c → PLd T L b x s) → ∃ s', L_299_218 (mjF (d + 2)) n 97 (nI (16 * b)) (nI L.length) (nI (16 * b + c)) (mjW0 s) = L_299_245 (mjF (d + 2)) mjN 97 (nI (400 * b)) (mjW0 s') ∧ oPs b s s' ∧ ∀ x, x < L.length → PLd T L b x s'
  | r, c, 0, s, e, hr, J, V, P => by omega
  | 0, c, n + 1, s, e, hr, J, V, P => by
    have hb := J.b1
    have h16 := J.len
    refine ⟨s, ?_, offG.rf, fun x hx => P x (by omega)⟩
    rw [L299p_S]
    unfold b_299_218
    rw [show nI (16 * b) + nI L.length = nI (16 * b + L.length) from nI_add _ _, if_pos (nI_le (show 16 * b + L.length ≤ 16 * b + c by omega) (by omega)), xg_97_63, J.1.2, show (400 : Int32) * nI b = nI (400 * b) by rw [show (400 : Int32) = nI 400 from rfl, nI_mul]]
  | r + 1, c, n + 1, s, e, hr, J, V, P => by
    have hb := J.b1
    have h16 := J.len
    have hc : c < L.length := by omega
    obtain ⟨s1, a1, a2, a3, a4⟩ := x_321 (d := d) Ac J V hc
    have P1 : ∀ x, x < c + 1 → PLd T L b x s1 := by
      intro x hx
      by_cases g : x = c
      · rw [g]; exact PLd_of Ac hc a4
      · obtain ⟨p1, p2, p3⟩ := P x (by omega)
        refine ⟨by rw [a2.1 109 _ (by omega)]; exact p1, a3.2.2 x (by omega) p2, fun m hm v => ?_⟩
        obtain ⟨q1, q2⟩ := p3 m hm v
        refine ⟨a3.1 m hm q1, fun ms => ?_⟩
        have bd := num_384 Ac J hm ms
        rw [a2.1 184 _ (by omega)]
        exact q2 ms
    obtain ⟨s', b1, b2', b3⟩ := lq_299p Ac r (c + 1) n s1 (by omega) (by omega) (a2.J J) (a2.Q V) P1
    refine ⟨s', ?_, offG.tr (oPl.S (by omega) a2) b2', b3⟩
    rw [L299p_S]
    unfold b_299_218
    rw [show nI (16 * b) + nI L.length = nI (16 * b + L.length) from nI_add _ _, if_neg (nI_ge (show 16 * b + c < 16 * b + L.length by omega) (by omega)), xV_97, a1, bN_s, ← b1, nI_1]
    rfl
theorem PLr_of (Ac : ACY T N L) (hh : ∀ m, m < nMem L → hmM L m < L.length) (P : ∀ x, x < L.length → PLd T L b x s) : PLr T L b s := by
  refine ⟨fun c hc => ⟨(P c hc).1, (P c hc).2.1⟩, fun m hm => ?_, fun c hc m hm ms v => ((P c hc).2.2 m hm v).2 ms⟩
  exact ((P (hmM L m) (hh m hm)).2.2 m hm ((vw_iff Ac (hh m hm)).mpr ⟨0, rfl⟩)).1
end MJB15
end
section
/-! ===== the reference's judge: one BLOCK among all ===== -/
def EvR (T : TT) (b : Nat) (t : PT) (tr : Bool) (m : Nat) : EV := EmT T t.1 tr (ktL (800 * b) t.2.2.1) m
def moM (m : Nat) : Option Nat := if m = 384 then none else some m
/-- a BLOCK's orders as they were read; the OVER behind them; as they were judged -/
def RwB (b : Nat) (t : PT) (z : PB) (m : Nat) (s : mjSt3) : Prop := ∀ (k : Nat) (r : Row), z.2.2.2.1[k]? = some r → Rw s (5000 * b + (i0T t m + k)) r
def OvB (b : Nat) (t : PT) (z : PB) (m : Nat) (s : mjSt3) : Prop := Rw s (5000 * b + (i0T t m + z.2.2.2.1.length)) oOver
def DnB (T : TT) (b : Nat) (t : PT) (tr : Bool) (z : PB) (m : Nat) (s : mjSt3) : Prop := JDG (EvR T b t tr m) b s (i0T t m) z.2.2.2.1 (jmT T t.1 m)
/-- the METHODS in D are judged, the others not yet -/
def JBI (T : TT) (N b : Nat) (t : PT) (rs : List RcM) (z : PB) (tr : Bool) (D : Nat → Prop) (s : mjSt3) : Prop := BS T N b t.2.2.1 t.1 tr s ∧ s.1 123 b = nI (i0T t 384) ∧ ∀ m, m ≤ 384 → isMT t.1 m = true → OvB b t (zT rs z m) m s ∧ (D m → DnB T b t tr (zT rs z m) m s) ∧ (¬ D m → RwB b t (zT rs z m) m s)
/-- what the judge of BLOCKS stands on -/
def HBd (T : TT) (N b : Nat) (t : PT) (rs : List RcM) (kb : Nat) (z : PB) (tr : Bool) : Prop := (∀ m, m ≤ 384 → isMT t.1 m = true → BDf T N b t m (kqT T rs kb m) (zT rs z m)) ∧ (∀ m m', m ≤ 384 → m' ≤ 384 → isMT t.1 m = true → isMT t.1 m' = true → ¬ m = m' → BDx t m m' (kqT T rs kb m) (kqT T rs kb m') (zT rs z m) (zT rs z m')) ∧ FX T N b t.2.2.1 t.1 tr ∧ t.2.2.2.1.length < 5000 ∧ nMem t.1 ≤ 384 ∧ t.2.2.1.length ≤ 750 ∧ b ≤ 1
/-- all that judging BLOCKS changes in bank b -/
def oBA (b : Nat) : mjSt3 → mjSt3 → Prop := oBy b 0 5000 (800 * b) (800 * b + 800)
section MJB16
variable {T : TT} {N b kb m d i en lo hi : Nat} {t : PT} {rs : List RcM} {z : PB} {tr : Bool} {s s' : mjSt3} {D D' : Nat → Prop} {E : EV} {j : JS}
theorem oBy.mono2 {i' en' lo' hi' : Nat} (o : oBy b i en lo hi s s') (h1 : i' ≤ i) (h2 : en ≤ en') (h3 : lo' ≤ lo) (h4 : hi ≤ hi' ∨ hi ≤ lo) : oBy b i' en' lo' hi' s s' := offG.mono o (fun x y w => by
  rcases w with w | w | w | w | w | w | w | w
  · exact Or.inl (w)
  · exact Or.inr (Or.inl (⟨w.1, by omega, by omega⟩))
  · exact Or.inr (Or.inr (Or.inl (w)))
  · exact Or.inr (Or.inr (Or.inr (Or.inl (w))))
  · exact Or.inr (Or.inr (Or.inr (Or.inr (Or.inl (w)))))
  · exact Or.inr (Or.inr (Or.inr (Or.inr (Or.inr (Or.inl (w))))))
  · exact Or.inr (Or.inr (Or.inr (Or.inr (Or.inr (Or.inr (Or.inl (⟨w.1, by omega, by omega⟩)))))))
  · exact Or.inr (Or.inr (Or.inr (Or.inr (Or.inr (Or.inr (Or.inr (⟨w.1, by omega, by omega⟩)))))))) (fun _ _ x => x)
theorem oBy.mono {i' en' lo' hi' : Nat} (o : oBy b i en lo hi s s') (h1 : i' ≤ i) (h2 : en ≤ en') (h3 : lo' ≤ lo) (h4 : hi ≤ hi') : oBy b i' en' lo' hi' s s' := oBy.mono2 o h1 h2 h3 (Or.inl h4)
theorem Rw.keepY {k : Nat} {r : Row} (h : Rw s k r) (o : oBy b i en lo hi s s') (hk : ¬ (5000 * b + i ≤ k ∧ k < 5000 * b + en)) : Rw s' k r := ⟨by rw [o.1 143 _ (by omega)]; exact h.1, by rw [o.1 144 _ (by omega)]; exact h.2.1, by rw [o.1 145 _ (by omega)]; exact h.2.2.1, by rw [o.1 146 _ (by omega)]; exact h.2.2.2.1, by rw [o.2.1 147 _ (show ¬ (147 : Nat) = 158 by decide)]; exact h.2.2.2.2⟩
theorem TKr.keepY {ti : Int32} {ty : Nat} {L : List CD} (hn : HN T N L) (K : TKr L b s ti ty) (o : oBy b i en lo hi s s') (h : ∀ k, k < 1600 → ti = nI k → ¬ (lo ≤ k ∧ k < hi)) : TKr L b s' ti ty := by
  match ty, K with
  | 0, K => exact K
  | 1, K => exact K.elim
  | kk + 2, ⟨v, k, k1, k2, k3, k4, k5⟩ =>
    have n5 := (vK.n5 hn (v.cl hn)).2
    have out := h k k1 k2
    refine ⟨v, k, k1, k2, ?_, ?_, fun a ha => ?_⟩
    · rw [o.1 138 k (by omega)]; exact k3
    · rw [o.1 139 k (by omega)]; exact k4
    · rw [o.1 142 (5 * k + a) (by omega)]; exact k5 a ha
theorem sdW_kd : ∀ (l : List Row) (i : Nat) (x : WS), sdW l i x → ∀ (j : Nat) (r : Row), l[j]? = some r → (r.1 = 7 ∨ r.1 = 14) → ∃ X, r.2.2.1 = nI X ∧ x.1.1 ≤ X ∧ X < (fdW l i x).1.1
  | [], _, _, _, _, _, h, _ => by cases h
  | a :: l, i, x, sc, 0, r, hr, h => by
    have e : a = r := by simpa using hr
    subst e
    have hE : isE a := by rcases h with h | h <;> (unfold isE; rw [h]; decide)
    have okE : okEr 60 20 120 a x.1 := by
      rcases sc.1 with ok | ⟨hr, _⟩ | ⟨hr, _⟩ | ⟨hr, _⟩ | ⟨hr, _⟩ | ⟨hr, _⟩ | ⟨hr, _⟩ | hr | ⟨hr, _⟩ | ⟨hr, _⟩
      · exact ok
      · rcases h with h | h <;> exact absurd (hr.symm.trans h) (by decide)
      · rcases h with h | h <;> exact absurd (hr.symm.trans h) (by decide)
      · rcases h with h | h <;> rcases hr with hr | hr <;> exact absurd (hr.1.symm.trans h) (by decide)
      · rcases h with h | h <;> exact absurd (hr.symm.trans h) (by decide)
      · rcases h with h | h <;> exact absurd (hr.symm.trans h) (by decide)
      · rcases h with h | h <;> rcases hr with hr | hr | hr | hr <;> exact absurd (hr.symm.trans h) (by decide)
      · rcases h with h | h <;> rcases hr with hr | hr | hr | hr <;> exact absurd (hr.symm.trans h) (by decide)
      · rcases h with h | h <;> exact absurd (hr.symm.trans h) (by decide)
      · rcases h with h | h <;> exact absurd (hr.symm.trans h) (by decide)
    have X1 : (nxW a i x).1.1 = x.1.1 + 1 := by
      rw [nxW_E hE]
      show (hxE a x.1).1 = x.1.1 + 1
      rcases h with h | h
      · unfold hxE
        rw [h, if_neg (by decide), if_pos rfl]
      · rw [hx_14 h]
    have mo := fdW_mono l (i + 1) (nxW a i x)
    refine ⟨x.1.1, okE.2.1 h, Nat.le_refl _, ?_⟩
    show x.1.1 < (fdW l (i + 1) (nxW a i x)).1.1
    omega
  | a :: l, i, x, sc, j + 1, r, hr, h => by
    have hr' : l[j]? = some r := hr
    obtain ⟨X, x1, x2, x3⟩ := sdW_kd l (i + 1) (nxW a i x) sc.2 j r hr' h
    have mo := (nxW_mono a i x).1
    exact ⟨X, x1, by omega, x3⟩
theorem JDG.keep {os : List Row} {i' : Nat} (hn : HN E.1 N E.2.1) (J : JDG E b s i os j) (o : oBy b i' en lo hi s s') (h1 : i + os.length ≤ i' ∨ en ≤ i) (h2 : ∀ (k : Nat) (r : Row), os[k]? = some r → (r.1 = 7 ∨ r.1 = 14) → ∃ X, r.2.2.1 = nI X ∧ X < 100000 ∧ ¬ (lo ≤ X ∧ X < hi)) : JDG E b s' i os j := by
  intro k r hk j1 l1 hj
  obtain ⟨a1, a2⟩ := J k r hk j1 l1 hj
  have kl := (List.getElem?_eq_some_iff.mp hk).1
  refine ⟨a1.keepY o (by omega), fun h kk hkk => (a2 h kk hkk).keepY hn o (fun y hy e => ?_)⟩
  obtain ⟨X, x1, x2, x3⟩ := h2 k r hk h
  rw [x1] at e
  have := (nI_eq (by omega) (by omega)).mp e
  rw [← this]
  exact x3
theorem JBI.cg (I : JBI T N b t rs z tr D s) (h : ∀ x, isMT t.1 x = true → (D x ↔ D' x)) : JBI T N b t rs z tr D' s := ⟨I.1, I.2.1, fun m hm im => ⟨(I.2.2 m hm im).1, fun d => (I.2.2 m hm im).2.1 ((h m im).mpr d), fun d => (I.2.2 m hm im).2.2 (fun e => d ((h m im).mp e))⟩⟩
theorem EvR_1 (m : Nat) : (EvR T b t tr m).1 = T ∧ (EvR T b t tr m).2.1 = t.1 := by
  unfold EvR EmT
  by_cases e : m = 384
  · rw [if_pos e]; exact ⟨rfl, rfl⟩
  · rw [if_neg e]; exact ⟨rfl, rfl⟩
/-- a BLOCK was judged: the others are as they were -/
theorem bd_tail (H : HBd T N b t rs kb z tr) (hm : m ≤ 384) (im : isMT t.1 m = true) (I : JBI T N b t rs z tr D s) (o : oBy b (i0T t m) (i0T t m + (zT rs z m).2.2.2.1.length) (kqT T rs kb m) (kqT T rs kb m + (zT rs z m).2.2.1.length) s s') (S : BS T N b t.2.2.1 t.1 tr s') (J : DnB T b t tr (zT rs z m) m s') : JBI T N b t rs z tr (fun x => D x ∨ x = m) s' := by
  refine ⟨S, by rw [o.1 123 b (by omega)]; exact I.2.1, fun x hx ix => ?_⟩
  obtain ⟨i1, i2, i3⟩ := I.2.2 x hx ix
  by_cases e : x = m
  · subst e
    exact ⟨i1.keepY o (by omega), fun _ => J, fun h => absurd (Or.inr rfl) h⟩
  · obtain ⟨y1, y2⟩ := H.2.1 m x hm hx im ix (fun h => e h.symm)
    obtain ⟨f1, f2, f3, f4, f5⟩ := H.1 x hx ix
    refine ⟨i1.keepY o (by omega), fun h => ?_, fun h => ?_⟩
    · refine JDG.keep (N := N) (by rw [(EvR_1 x).1, (EvR_1 x).2]; exact S.1.1.2.2.2.2.2.1) (i2 (h.elim id (fun h => absurd h e))) o (by omega) (fun k r hk hr => ?_)
      obtain ⟨X, x1, x2, x3⟩ := sdW_kd _ _ _ f1 k r hk hr
      have x2' : kqT T rs kb x ≤ X := x2
      exact ⟨X, x1, by omega, fun ⟨l1, l2⟩ => y2 X l1 l2 x2' (by omega)⟩
    · intro k r hk
      have kl := (List.getElem?_eq_some_iff.mp hk).1
      exact (i3 (fun hd => h (Or.inl hd)) k r hk).keepY o (by omega)
/-- judgeBody of one METHOD, or of main, among all -/
theorem x_bd (H : HBd T N b t rs kb z tr) (hm : m ≤ 384) (im : isMT t.1 m = true) (nd : ¬ D m) (I : JBI T N b t rs z tr D s) (g : gR0 s) : ∃ s', mjF (d + 8) 322 [.ref 97, .int (mR b (moM m))] (mjW0 s) = some (none, mjW0 s') ∧ oBA b s s' ∧ ((¬ jrun (EvR T b t tr m) (zT rs z m).2.2.2.1 (jmT T t.1 m) = none ∧ gR0 s' ∧ JBI T N b t rs z tr (fun x => D x ∨ x = m) s') ∨ (jrun (EvR T b t tr m) (zT rs z m).2.2.2.1 (jmT T t.1 m) = none ∧ bR0 s')) := by
  obtain ⟨f1, f2, f3, f4, f5⟩ := H.1 m hm im
  obtain ⟨i1, i2, i3⟩ := I.2.2 m hm im
  have F := H.2.2.1
  have o5 := H.2.2.2.1
  have k75 := H.2.2.2.2.2.1
  have hb := H.2.2.2.2.2.2
  have ov := f4.ov.1
  have en5 : i0T t m + (zT rs z m).2.2.2.1.length < 5000 := by
    have := (List.getElem?_eq_some_iff.mp ov).1
    omega
  have rows := i3 nd
  have last : s.1 143 (5000 * b + (i0T t m + (zT rs z m).2.2.2.1.length)) = 28 ∧ s.1 145 (5000 * b + (i0T t m + (zT rs z m).2.2.2.1.length)) = 0 := ⟨i1.1, i1.2.2.1⟩
  have kb0 : 800 * b ≤ kqT T rs kb m := f3.2.1.1
  have kb1 : kqT T rs kb m + (zT rs z m).2.2.1.length ≤ 800 * b + 800 ∨ (zT rs z m).2.2.1.length = 0 := by
    by_cases q : (zT rs z m).2.2.1.length = 0
    · exact Or.inr q
    · obtain ⟨u, hu⟩ : ∃ u, (zT rs z m).2.2.1[(zT rs z m).2.2.1.length - 1]? = some u := ⟨_, List.getElem?_eq_getElem (by omega)⟩
      have w := f3.2.1.2 _ u hu
      have := (List.getElem?_eq_some_iff.mp w).1
      exact Or.inl (by omega)
  have main : ∃ s', mjF (d + 8) 322 [.ref 97, .int (mR b (moM m))] (mjW0 s) = some (none, mjW0 s') ∧ oBy b (i0T t m) (i0T t m + (zT rs z m).2.2.2.1.length) (kqT T rs kb m) (kqT T rs kb m + (zT rs z m).2.2.1.length) s s' ∧ match jrun (EvR T b t tr m) (zT rs z m).2.2.2.1 (jmT T t.1 m) with
      | none => bR0 s'
      | some _ => gR0 s' ∧ BS T N b t.2.2.1 t.1 tr s' ∧ JDG (EvR T b t tr m) b s' (i0T t m) (zT rs z m).2.2.2.1 (jmT T t.1 m) := by
    by_cases e : m = 384
    · have e1 : moM m = none := if_pos e
      have e2 : EvR T b t tr m = (T, t.1, tr, ktL (800 * b) t.2.2.1, none, 0, fun _ => 0) := if_pos e
      have e3 : jmT T t.1 m = ([], [], [], 0, 0, (0, 0), 0, []) := by unfold jmT npT; rw [if_pos e, if_pos e]
      have e4 : npT t.1 m = 0 := if_pos e
      rw [e1, e2, e3]
      rw [e4] at f1 f2
      exact x_322 (d := d) (E := (T, t.1, tr, ktL (800 * b) t.2.2.1, none, 0, fun _ => 0)) (mm := none) (zk := (zT rs z m).2.2.1) F f3 rfl (by omega) en5 I.1 g ⟨rfl, rfl, by rw [e]; exact I.2.1⟩ rows last f1 f2
    · obtain ⟨g1, g2⟩ := isMT_lt im e
      have e1 : moM m = some m := if_neg e
      have e2 : EvR T b t tr m = (T, t.1, tr, ktL (800 * b) t.2.2.1, some (hmM t.1 m), tyM T t.1 m, fun _ => 0) := if_neg e
      have e3 : jmT T t.1 m = ([], [], pvs T t.1 m (psM t.1 m).length, (psM t.1 m).length, 0, (0, 0), 0, []) := by unfold jmT npT; rw [if_neg e, if_neg e]
      have e4 : npT t.1 m = (psM t.1 m).length := if_neg e
      have e5 : i0T t m = (mdM t.1 m).2.2.2.2.2.2.1 := if_neg e
      have h129 : s.1 129 (400 * b + m) = nI (i0T t m) := by
        rw [e5]
        have := (I.1.1.1.mem g1).1.2.2.2.1
        rw [this]
        exact if_pos g2
      rw [e1, e2, e3]
      rw [e4] at f1 f2
      exact x_322 (d := d) (E := (T, t.1, tr, ktL (800 * b) t.2.2.1, some (hmM t.1 m), tyM T t.1 m, fun _ => 0)) (mm := some m) (zk := (zT rs z m).2.2.1) F f3 rfl (by omega) en5 I.1 g ⟨g1, rfl, rfl, h129⟩ rows last f1 f2
  obtain ⟨s', a1, a2, a3⟩ := main
  have oA : oBA b s s' := by
    rcases kb1 with q | q
    · exact oBy.mono a2 (by omega) (by omega) kb0 q
    · exact oBy.mono2 a2 (by omega) (by omega) kb0 (Or.inr (by omega))
  cases hj : jrun (EvR T b t tr m) (zT rs z m).2.2.2.1 (jmT T t.1 m) with
  | none =>
    rw [hj] at a3
    exact ⟨s', a1, oA, Or.inr ⟨rfl, a3⟩⟩
  | some y =>
    rw [hj] at a3
    exact ⟨s', a1, oA, Or.inl ⟨fun h => (by cases h), a3.1, bd_tail H hm im I a2 a3.2.1 a3.2.2⟩⟩
end MJB16
end
section
/-! ===== the reference's judge: all BLOCKS; judgeAll ===== -/
/-- all that judging changes in bank b -/
def chJA (b h j : Nat) : Prop := (h = 97 ∧ (j = 61 ∨ j = 62 ∨ j = 82 ∨ j = 87 ∨ j = 88 ∨ j = 92 ∨ j = 95 ∨ j = 132 ∨ j = 133)) ∨ ((h = 109 ∨ h = 110) ∧ 16 * b ≤ j ∧ j < 16 * b + 16) ∨ ((h = 117 ∨ h = 118) ∧ 128 * b ≤ j ∧ j < 128 * b + 128) ∨ (h = 119 ∧ 784 * b ≤ j ∧ j < 784 * b + 784) ∨ (h = 130 ∧ 400 * b ≤ j ∧ j < 400 * b + 400) ∨ (h = 139 ∧ 800 * b ≤ j ∧ j < 800 * b + 800) ∨ (h = 142 ∧ 800 * b ≤ j / 5 ∧ j / 5 < 800 * b + 800) ∨ (h = 145 ∧ 5000 * b ≤ j ∧ j < 5000 * b + 5000) ∨ (155 ≤ h ∧ h ≤ 157) ∨ (159 ≤ h ∧ h ≤ 163) ∨ h = 165 ∨ h = 166 ∨ h = 183 ∨ (h = 184 ∧ 6400 * b ≤ j ∧ j < 6400 * b + 6400)
def oJA (b : Nat) : mjSt3 → mjSt3 → Prop := offG (chJA b) (fun h _ => h = 158)
section MJB17
variable {T : TT} {N b kb m d : Nat} {t : PT} {rs : List RcM} {z : PB} {tr : Bool} {s s' : mjSt3}
theorem oBA.JA (o : oBA b s s') : oJA b s s' := offG.mono o (fun x y w => by
  rcases w with w | w | w | w | w | w | w | w
  · exact Or.inl (w)
  · exact Or.inr (Or.inr (Or.inr (Or.inr (Or.inr (Or.inr (Or.inr (Or.inl (⟨w.1, w.2.1, w.2.2⟩))))))))
  · exact Or.inr (Or.inr (Or.inr (Or.inr (Or.inr (Or.inr (Or.inr (Or.inr (Or.inl (w)))))))))
  · exact Or.inr (Or.inr (Or.inr (Or.inr (Or.inr (Or.inr (Or.inr (Or.inr (Or.inr (Or.inl (w))))))))))
  · exact Or.inr (Or.inr (Or.inr (Or.inr (Or.inr (Or.inr (Or.inr (Or.inr (Or.inr (Or.inr (Or.inl (w)))))))))))
  · exact Or.inr (Or.inr (Or.inr (Or.inr (Or.inr (Or.inr (Or.inr (Or.inr (Or.inr (Or.inr (Or.inr (Or.inl (w))))))))))))
  · exact Or.inr (Or.inr (Or.inr (Or.inr (Or.inr (Or.inl (w))))))
  · exact Or.inr (Or.inr (Or.inr (Or.inr (Or.inr (Or.inr (Or.inl (w)))))))) (fun _ _ x => x)
theorem oPs.JA (o : oPs b s s') : oJA b s s' := offG.mono o (fun x y w => by
  rcases w with w | w | w | w
  · exact Or.inr (Or.inl (w))
  · exact Or.inr (Or.inr (Or.inr (Or.inr (Or.inl (w)))))
  · exact Or.inr (Or.inr (Or.inr (Or.inr (Or.inr (Or.inr (Or.inr (Or.inr (Or.inr (Or.inr (Or.inr (Or.inr (Or.inl (w)))))))))))))
  · exact Or.inr (Or.inr (Or.inr (Or.inr (Or.inr (Or.inr (Or.inr (Or.inr (Or.inr (Or.inr (Or.inr (Or.inr (Or.inr (w)))))))))))))) (fun _ _ x => x.elim)
theorem oJG.JA (o : oJG b s s') : oJA b s s' := offG.mono o (fun x y w => by
  rcases w with w | w | w | w | w | w | w
  · exact Or.inl (⟨w.1, by have := w.2; omega⟩)
  · exact Or.inr (Or.inr (Or.inl (w)))
  · exact Or.inr (Or.inr (Or.inr (Or.inl (w))))
  · exact Or.inr (Or.inr (Or.inr (Or.inr (Or.inr (Or.inl (w))))))
  · exact Or.inr (Or.inr (Or.inr (Or.inr (Or.inr (Or.inr (Or.inl (w)))))))
  · exact Or.inr (Or.inr (Or.inr (Or.inr (Or.inr (Or.inr (Or.inr (Or.inr (Or.inr (Or.inr (Or.inl (w)))))))))))
  · exact Or.inr (Or.inr (Or.inr (Or.inr (Or.inr (Or.inr (Or.inr (Or.inr (Or.inr (Or.inr (Or.inr (Or.inl (w))))))))))))) (fun _ _ x => x.elim)
theorem L299b_S (R : mjR) (n a : Nat) (w : Int32) (hp : mjH) : L_299_245 R (n + 1) a w hp = b_299_245 R (L_299_245 R n) a w hp := rfl
theorem b299_bad (R : mjR) (B : bR0 s) : b_299_295 R 97 (mjW0 s) = some (none, mjW0 s) := by
  unfold b_299_295
  rw [xg_97_61, if_neg B.ng]
theorem L299_bad (R : mjR) (B : bR0 s) (hb : b ≤ 1) (h63 : s.1 97 63 = nI b) (n : Nat) (w : Int32) : L_299_245 R (n + 1) 97 w (mjW0 s) = some (none, mjW0 s) := by
  rw [L299b_S]
  unfold b_299_245
  rw [xg_97_63, xg_97_31, xg_97_63, h63, wa_120 (by omega), xg_97_61, if_neg B.ng, ite_self]
  exact b299_bad R B
theorem lq_299b (H : HBd T N b t rs kb z tr) : ∀ (r m n : Nat) (s : mjSt3), m + r = nMem t.1 → r + 1 < n → JBI T N b t rs z tr (fun x => x < m) s → gR0 s → ∃ s', L_299_245 (mjF (d + 8)) n 97 (nI (400 * b + m)) (mjW0 s) = some (none, mjW0 s') ∧ oBA b s s' ∧ (((∀ x, m ≤ x → x ≤ 384 → isMT t.1 x = true → ¬ jrun (EvR T b t tr x) (zT rs z x).2.2.2.1 (jmT T t.1 x) = none) ∧ gR0 s' ∧ JBI T N b t rs z tr (fun _ => True) s') ∨ ((∃ x, x ≤ 384 ∧ isMT t.1 x = true ∧ jrun (EvR T b t tr x) (zT rs z x).2.2.2.1 (jmT T t.1 x) = none) ∧ bR0 s'))
  | r, m, 0, s, e, hr, I, g => by omega
  | 0, m, n + 1, s, e, hr, I, g => by
    have hb := H.2.2.2.2.2.2
    have m384 := H.2.2.2.2.1
    have J := I.1.1.1
    have pre : L_299_245 (mjF (d + 8)) (n + 1) 97 (nI (400 * b + m)) (mjW0 s) = bN (mjF (d + 8) 322 [.ref 97, .int (mR b (moM 384))] (mjW0 s)) (fun hp2 => some (none, hp2)) := by
      rw [L299b_S]
      unfold b_299_245
      rw [xg_97_63, xg_97_31, xg_97_63, J.1.2, wa_120 (by omega), J.2.1.2.1, show (400 : Int32) * nI b + nI (nMem t.1) = nI (400 * b + nMem t.1) by rw [show (400 : Int32) = nI 400 from rfl, nI_mul, nI_add], if_pos (nI_le (show 400 * b + nMem t.1 ≤ 400 * b + m by omega) (by omega))]
      unfold b_299_295
      rw [xg_97_61, if_pos (show s.1 97 61 = 0 from g), xV_97]
      rfl
    obtain ⟨s', a1, a2, a3⟩ := x_bd (d := d) (m := 384) (D := fun x => x < m) H (Nat.le_refl _) (isMT_384 _) (show ¬ 384 < m by omega) I g
    refine ⟨s', by rw [pre, a1, bN_s], a2, ?_⟩
    rcases a3 with ⟨h1, h2, h3⟩ | ⟨h1, h2⟩
    · refine Or.inl ⟨fun x hx hx' ix => ?_, h2, h3.cg (fun x ix => ⟨fun _ => trivial, fun _ => ?_⟩)⟩
      · by_cases e' : x = 384
        · rw [e']; exact h1
        · have := (isMT_lt ix e').1
          omega
      · by_cases e' : x = 384
        · exact Or.inr e'
        · have := (isMT_lt ix e').1
          exact Or.inl (by omega)
    · exact Or.inr ⟨⟨384, Nat.le_refl _, isMT_384 _, h1⟩, h2⟩
  | r + 1, m, n + 1, s, e, hr, I, g => by
    have hb := H.2.2.2.2.2.2
    have m384 := H.2.2.2.2.1
    have J := I.1.1.1
    have hm : m < nMem t.1 := by omega
    have pre : L_299_245 (mjF (d + 8)) (n + 1) 97 (nI (400 * b + m)) (mjW0 s) = (if b2 (mSM t.1 m) = (1 : Int32) then bN (mjF (d + 8) 322 [.ref 97, .int (nI (400 * b + m))] (mjW0 s)) (fun hp8 => L_299_245 (mjF (d + 8)) n 97 (nI (400 * b + (m + 1))) hp8) else L_299_245 (mjF (d + 8)) n 97 (nI (400 * b + (m + 1))) (mjW0 s)) := by
      rw [L299b_S]
      unfold b_299_245
      rw [xg_97_63, xg_97_31, xg_97_63, J.1.2, wa_120 (by omega), J.2.1.2.1, show (400 : Int32) * nI b + nI (nMem t.1) = nI (400 * b + nMem t.1) by rw [show (400 : Int32) = nI 400 from rfl, nI_mul, nI_add], if_neg (nI_ge (show 400 * b + m < 400 * b + nMem t.1 by omega) (by omega)), xg_97_61, if_pos (show s.1 97 61 = 0 from g), xg_97_36, wa_125 (by omega), J.sort hm, xV_97]
      unfold b_299_289
      rw [nI_1]
      rfl
    have e384 : ¬ m = 384 := by omega
    cases ms : mSM t.1 m with
    | false =>
      have im : ¬ isMT t.1 m = true := fun h => by
        have := (isMT_lt h e384).2
        rw [ms] at this
        cases this
      obtain ⟨s', a1, a2, a3⟩ := lq_299b H r (m + 1) n s (by omega) (by omega) (I.cg (fun x ix => ⟨fun h => (show x < m + 1 by have h' : x < m := h; omega), fun h => (show x < m by
        have h' : x < m + 1 := h
        by_cases q : x = m
        · rw [q] at ix; exact absurd ix im
        · omega)⟩)) g
      refine ⟨s', ?_, a2, ?_⟩
      · rw [pre, ms, if_neg (show ¬ b2 false = (1 : Int32) by decide)]
        exact a1
      · rcases a3 with ⟨h1, h2⟩ | h
        · refine Or.inl ⟨fun x hx hx' ix => ?_, h2⟩
          by_cases q : x = m
          · rw [q] at ix; exact absurd ix im
          · exact h1 x (by omega) hx' ix
        · exact Or.inr h
    | true =>
      have im : isMT t.1 m = true := by
        unfold isMT
        rw [decide_eq_true hm, ms]
        exact Bool.or_true _
      obtain ⟨s1, a1, a2, a3⟩ := x_bd (d := d) (m := m) (D := fun x => x < m) H (by omega) im (show ¬ m < m by omega) I g
      rw [show moM m = some m from if_neg e384] at a1
      have a1' : mjF (d + 8) 322 [.ref 97, .int (nI (400 * b + m))] (mjW0 s) = some (none, mjW0 s1) := a1
      have pre2 : L_299_245 (mjF (d + 8)) (n + 1) 97 (nI (400 * b + m)) (mjW0 s) = L_299_245 (mjF (d + 8)) n 97 (nI (400 * b + (m + 1))) (mjW0 s1) := by
        rw [pre, ms, if_pos (show b2 true = (1 : Int32) by decide), a1', bN_s]
      rcases a3 with ⟨h1, h2, h3⟩ | ⟨h1, h2⟩
      · obtain ⟨s', b1, b2', b3⟩ := lq_299b H r (m + 1) n s1 (by omega) (by omega) (h3.cg (fun x ix => ⟨fun h => (show x < m + 1 by rcases h with h | h <;> omega), fun h => (show x < m ∨ x = m by have h' : x < m + 1 := h; omega)⟩)) h2
        refine ⟨s', pre2.trans b1, offG.tr a2 b2', ?_⟩
        rcases b3 with ⟨k1, k2⟩ | k
        · refine Or.inl ⟨fun x hx hx' ix => ?_, k2⟩
          by_cases q : x = m
          · rw [q]; exact h1
          · exact k1 x (by omega) hx' ix
        · exact Or.inr k
      · cases n with
        | zero => omega
        | succ n =>
          refine ⟨s1, pre2.trans (L299_bad _ h2 hb (by rw [a2.1 97 63 (by omega)]; exact J.1.2) n _), a2, Or.inr ⟨⟨m, by omega, im, h1⟩, h2⟩⟩
/-- judgeAll -/
theorem x_299 (R : TRc T N (800 * b) t rs kb z) (X : TRx t rs) (O : OSt t.2.2.2.1 (mmD t.1) t.2.2.2.2.2) (hN : N ≤ 3000) (h0 : (T N).1 = 0) (ho : t.2.2.2.1.length < 5000) (J : RJ T N b t.2.2.1 t.1 s) (ht : s.1 97 129 = b2 tr) (g : gR0 s) (OR : ∀ (i : Nat) (r : Row), t.2.2.2.1[i]? = some r → Rw s (5000 * b + i) r) (h123 : s.1 123 b = nI t.2.2.2.2.2) : ∃ s', mjF (d + 9) 299 [.ref 97] (mjW0 s) = some (none, mjW0 s') ∧ oJA b s s' ∧ ((OKz T (800 * b) t rs z tr ∧ gR0 s' ∧ HBd T N b t rs kb z tr ∧ JBI T N b t rs z tr (fun _ => True) s') ∨ (¬ OKz T (800 * b) t rs z tr ∧ bR0 s')) := by
  have hb := J.b1
  have hk0 : 800 * b ≤ 1000 := by omega
  have hmj := mjN_v
  have OD := ORD_of R X rfl hb hN
  have Pi := R.pfi
  have Pm := R.pfm hN hk0 h0
  obtain ⟨s1, a1, o1, G1, i1, q1⟩ := x_299a (d := d + 2) (tr := tr) ⟨J, ht⟩ Pi Pm OD g
  by_cases g1 : gR0 s1
  · have ok := i1.mp g1
    obtain ⟨Ac, S1, V1⟩ := q1 g1
    obtain ⟨s2, c1, o2, P2⟩ := lq_299p (d := d + 6) Ac t.1.length 0 mjN s1 (by omega) (by have := J.len; omega) S1.1 V1 (fun x hx => by omega)
    have r2 : ∀ h, ¬ (h = 109 ∨ h = 110 ∨ h = 130 ∨ h = 183 ∨ h = 184) → s2.1 h = s1.1 h := fun h hh => o2.r hh
    have J2 := o2.J S1.1
    have hh : ∀ m, m < nMem t.1 → hmM t.1 m < t.1.length := fun m hm => (J.mem hm).2
    have S2 : BS T N b t.2.2.1 t.1 tr s2 := by
      refine ⟨⟨J2, ?_, ?_, by rw [r2 97 (by decide)]; exact S1.2.2.2⟩, ⟨fun x hx => (V1.1 x hx).cg2 (r2 126 (by decide)) (r2 133 (by decide)) (r2 138 (by decide)) (r2 139 (by decide)) (r2 142 (by decide)), fun x hx => (V1.2 x hx).cg (r2 105 (by decide)) (r2 138 (by decide)) (r2 139 (by decide)) (r2 142 (by decide))⟩, PLr_of Ac hh P2⟩
      · unfold WIT; rw [r2 119 (by decide)]; exact S1.2.1
      · unfold IRr; rw [r2 117 (by decide), r2 118 (by decide)]; exact S1.2.2.1
    have FXs : FX T N b t.2.2.1 t.1 tr := ⟨Ac, OD, Pm, fun m hm => by
      obtain ⟨c, i, e1, e2, e3⟩ := fm_ex hm
      rw [e3]
      exact (ok.2.2.2.2.1 c e1).2 i e2, h0⟩
    have h6 : ∀ m, m < nMem t.1 → (psM t.1 m).length ≤ 6 := fun m hm => (J.p6 hm).2
    have H : HBd T N b t rs kb z tr := ⟨fun m hm im => BDf_of R X rfl hb hN h6 hm im, fun m m' hm hm' im im' ne => BDx_of R X O rfl hb hN h6 hm hm' im im' ne, FXs, ho, J.n384, J.2.2.2.1, hb⟩
    have rw2 : ∀ (i : Nat) (r : Row), t.2.2.2.1[i]? = some r → Rw s2 (5000 * b + i) r := by
      intro i r hi
      obtain ⟨w1, w2, w3, w4, w5⟩ := OR i r hi
      have q : ∀ h, 143 ≤ h ∧ h ≤ 146 → s2.1 h = s.1 h := fun h hh => (r2 h (by omega)).trans (funext fun y => o1.1 h y (by unfold bkP; omega))
      have q5 : s2.2.1 147 = s.2.1 147 := by rw [o2.l]; exact funext fun y => o1.2.1 147 y (fun e => e)
      exact ⟨by rw [q 143 (by omega)]; exact w1, by rw [q 144 (by omega)]; exact w2, by rw [q 145 (by omega)]; exact w3, by rw [q 146 (by omega)]; exact w4, by rw [q5]; exact w5⟩
    have I2 : JBI T N b t rs z tr (fun x => x < 0) s2 := by
      refine ⟨S2, ?_, fun m hm im => ?_⟩
      · rw [r2 123 (by decide), o1.1 123 b (by unfold bkP; omega)]
        exact h123
      · obtain ⟨_, _, _, f4, _⟩ := H.1 m hm im
        refine ⟨rw2 _ _ f4.ov.1, fun h => absurd h (Nat.not_lt_zero _), fun _ k r hk => rw2 _ _ (f4.ov.2 k r hk)⟩
    have g2 : gR0 s2 := by unfold gR0; rw [r2 97 (by decide)]; exact g1
    obtain ⟨s', b1, b2', b3⟩ := lq_299b (d := d) H (nMem t.1) 0 mjN s2 (by omega) (by have := J.n384; omega) I2 g2
    refine ⟨s', ?_, offG.tr (oJG.JA o1) (offG.tr (oPs.JA o2) (oBA.JA b2')), ?_⟩
    · have a1' : mjF (d + 9) 299 [.ref 97] (mjW0 s) = b_299_208 (mjF (d + 8)) 97 (nI (16 * b)) (nI t.1.length) (mjW0 s1) := a1
      rw [a1']
      unfold b_299_208
      rw [xg_97_61, if_pos (show s1.1 97 61 ≤ 0 by rw [show s1.1 97 61 = 0 from g1]; exact Int32.le_refl _)]
      exact c1.trans b1
    · rcases b3 with ⟨k1, k2, k3⟩ | ⟨⟨x, x1, x2, x3⟩, k2⟩
      · exact Or.inl ⟨⟨ok, fun m hm im => k1 m (Nat.zero_le _) hm im⟩, k2, H, k3⟩
      · exact Or.inr ⟨fun oz => oz.2 x x1 x2 x3, k2⟩
  · have B1 : bR0 s1 := G1.ng g1
    refine ⟨s1, ?_, oJG.JA o1, Or.inr ⟨fun oz => g1 (i1.mpr oz.1), B1⟩⟩
    have a1' : mjF (d + 9) 299 [.ref 97] (mjW0 s) = b_299_208 (mjF (d + 8)) 97 (nI (16 * b)) (nI t.1.length) (mjW0 s1) := a1
    rw [a1']
    unfold b_299_208
    rw [xg_97_61, if_neg B1]
end MJB17
end
section
/-! ===== the reference's banks: what was judged stands in one bank ===== -/
def inB (b h j : Nat) : Prop := ((h = 100 ∨ (120 ≤ h ∧ h ≤ 123)) ∧ j = b) ∨ (102 ≤ h ∧ h ≤ 110 ∧ 16 * b ≤ j ∧ j < 16 * b + 16) ∨ (h = 112 ∧ 80 * b ≤ j ∧ j < 80 * b + 80) ∨ (115 ≤ h ∧ h ≤ 118 ∧ 128 * b ≤ j ∧ j < 128 * b + 128) ∨ (h = 119 ∧ 784 * b ≤ j ∧ j < 784 * b + 784) ∨ (124 ≤ h ∧ h ≤ 131 ∧ 400 * b ≤ j ∧ j < 400 * b + 400) ∨ ((h = 133 ∨ h = 134) ∧ 2400 * b ≤ j ∧ j < 2400 * b + 2400) ∨ (137 ≤ h ∧ h ≤ 139 ∧ 800 * b ≤ j ∧ j < 800 * b + 800) ∨ ((h = 141 ∨ h = 142) ∧ 4000 * b ≤ j ∧ j < 4000 * b + 4000) ∨ (143 ≤ h ∧ h ≤ 146 ∧ 5000 * b ≤ j ∧ j < 5000 * b + 5000) ∨ (h = 184 ∧ 6400 * b ≤ j ∧ j < 6400 * b + 6400)
def inBL (b h j : Nat) : Prop := (h = 101 ∧ 16 * b ≤ j ∧ j < 16 * b + 16) ∨ (h = 111 ∧ 80 * b ≤ j ∧ j < 80 * b + 80) ∨ ((h = 113 ∨ h = 114) ∧ 128 * b ≤ j ∧ j < 128 * b + 128) ∨ (h = 132 ∧ 400 * b ≤ j ∧ j < 400 * b + 400) ∨ (h = 135 ∧ 2400 * b ≤ j ∧ j < 2400 * b + 2400) ∨ (h = 136 ∧ 800 * b ≤ j ∧ j < 800 * b + 800) ∨ (h = 140 ∧ 4000 * b ≤ j ∧ j < 4000 * b + 4000) ∨ (h = 147 ∧ 5000 * b ≤ j ∧ j < 5000 * b + 5000)
/-- bank b is the same, and so is what the judge was told -/
def SBq (b : Nat) (s s' : mjSt3) : Prop := (s'.1 97 63 = s.1 97 63 ∧ s'.1 97 129 = s.1 97 129) ∧ (∀ h j, inB b h j → s'.1 h j = s.1 h j) ∧ ∀ h j, inBL b h j → s'.2.1 h j = s.2.1 h j
theorem inB.i0 {b h : Nat} (h1 : h = 100 ∨ (120 ≤ h ∧ h ≤ 123)) : inB b h b := Or.inl ⟨h1, rfl⟩
theorem inB.i1 {b h j : Nat} (h1 : 102 ≤ h ∧ h ≤ 110) (h2 : 16 * b ≤ j) (h3 : j < 16 * b + 16) : inB b h j := Or.inr (Or.inl (⟨h1.1, h1.2, h2, h3⟩))
theorem inB.i2 {b h j : Nat} (h1 : h = 112) (h2 : 80 * b ≤ j) (h3 : j < 80 * b + 80) : inB b h j := Or.inr (Or.inr (Or.inl (⟨h1, h2, h3⟩)))
theorem inB.i3 {b h j : Nat} (h1 : 115 ≤ h ∧ h ≤ 118) (h2 : 128 * b ≤ j) (h3 : j < 128 * b + 128) : inB b h j := Or.inr (Or.inr (Or.inr (Or.inl (⟨h1.1, h1.2, h2, h3⟩))))
theorem inB.i4 {b h j : Nat} (h1 : h = 119) (h2 : 784 * b ≤ j) (h3 : j < 784 * b + 784) : inB b h j := Or.inr (Or.inr (Or.inr (Or.inr (Or.inl (⟨h1, h2, h3⟩)))))
theorem inB.i5 {b h j : Nat} (h1 : 124 ≤ h ∧ h ≤ 131) (h2 : 400 * b ≤ j) (h3 : j < 400 * b + 400) : inB b h j := Or.inr (Or.inr (Or.inr (Or.inr (Or.inr (Or.inl (⟨h1.1, h1.2, h2, h3⟩))))))
theorem inB.i6 {b h j : Nat} (h1 : h = 133 ∨ h = 134) (h2 : 2400 * b ≤ j) (h3 : j < 2400 * b + 2400) : inB b h j := Or.inr (Or.inr (Or.inr (Or.inr (Or.inr (Or.inr (Or.inl (⟨h1, h2, h3⟩)))))))
theorem inB.i7 {b h j : Nat} (h1 : 137 ≤ h ∧ h ≤ 139) (h2 : 800 * b ≤ j) (h3 : j < 800 * b + 800) : inB b h j := Or.inr (Or.inr (Or.inr (Or.inr (Or.inr (Or.inr (Or.inr (Or.inl (⟨h1.1, h1.2, h2, h3⟩))))))))
theorem inB.i8 {b h j : Nat} (h1 : h = 141 ∨ h = 142) (h2 : 4000 * b ≤ j) (h3 : j < 4000 * b + 4000) : inB b h j := Or.inr (Or.inr (Or.inr (Or.inr (Or.inr (Or.inr (Or.inr (Or.inr (Or.inl (⟨h1, h2, h3⟩)))))))))
theorem inB.i9 {b h j : Nat} (h1 : 143 ≤ h ∧ h ≤ 146) (h2 : 5000 * b ≤ j) (h3 : j < 5000 * b + 5000) : inB b h j := Or.inr (Or.inr (Or.inr (Or.inr (Or.inr (Or.inr (Or.inr (Or.inr (Or.inr (Or.inl (⟨h1.1, h1.2, h2, h3⟩))))))))))
theorem inB.i10 {b h j : Nat} (h1 : h = 184) (h2 : 6400 * b ≤ j) (h3 : j < 6400 * b + 6400) : inB b h j := Or.inr (Or.inr (Or.inr (Or.inr (Or.inr (Or.inr (Or.inr (Or.inr (Or.inr (Or.inr (⟨h1, h2, h3⟩))))))))))
theorem inBL.i0 {b h j : Nat} (h1 : h = 101) (h2 : 16 * b ≤ j) (h3 : j < 16 * b + 16) : inBL b h j := Or.inl (⟨h1, h2, h3⟩)
theorem inBL.i1 {b h j : Nat} (h1 : h = 111) (h2 : 80 * b ≤ j) (h3 : j < 80 * b + 80) : inBL b h j := Or.inr (Or.inl (⟨h1, h2, h3⟩))
theorem inBL.i2 {b h j : Nat} (h1 : h = 113 ∨ h = 114) (h2 : 128 * b ≤ j) (h3 : j < 128 * b + 128) : inBL b h j := Or.inr (Or.inr (Or.inl (⟨h1, h2, h3⟩)))
theorem inBL.i3 {b h j : Nat} (h1 : h = 132) (h2 : 400 * b ≤ j) (h3 : j < 400 * b + 400) : inBL b h j := Or.inr (Or.inr (Or.inr (Or.inl (⟨h1, h2, h3⟩))))
theorem inBL.i4 {b h j : Nat} (h1 : h = 135) (h2 : 2400 * b ≤ j) (h3 : j < 2400 * b + 2400) : inBL b h j := Or.inr (Or.inr (Or.inr (Or.inr (Or.inl (⟨h1, h2, h3⟩)))))
theorem inBL.i5 {b h j : Nat} (h1 : h = 136) (h2 : 800 * b ≤ j) (h3 : j < 800 * b + 800) : inBL b h j := Or.inr (Or.inr (Or.inr (Or.inr (Or.inr (Or.inl (⟨h1, h2, h3⟩))))))
theorem inBL.i6 {b h j : Nat} (h1 : h = 140) (h2 : 4000 * b ≤ j) (h3 : j < 4000 * b + 4000) : inBL b h j := Or.inr (Or.inr (Or.inr (Or.inr (Or.inr (Or.inr (Or.inl (⟨h1, h2, h3⟩)))))))
theorem inBL.i7 {b h j : Nat} (h1 : h = 147) (h2 : 5000 * b ≤ j) (h3 : j < 5000 * b + 5000) : inBL b h j := Or.inr (Or.inr (Or.inr (Or.inr (Or.inr (Or.inr (Or.inr (⟨h1, h2, h3⟩)))))))
section MJB18
variable {T : TT} {N b kb m c k : Nat} {t : PT} {ks : List Nat} {L : List CD} {rs : List RcM} {z : PB} {tr : Bool} {s s' : mjSt3} {D : Nat → Prop} {ti : Int32} {ty : Nat}
theorem TyI.bk2 {u : Nat} (h : TyI T b ks u ti) (l : ks.length ≤ 750) (hb : b ≤ 1) : ∀ k, k < 1600 → ti = nI k → 800 * b ≤ k ∧ k < 800 * b + 800 := by
  intro k hk e
  rcases h with ⟨_, h⟩ | ⟨_, i, h1, h2⟩
  · exact absurd (e.symm.trans h) (nI_m1 (by omega))
  · have hi := (List.getElem?_eq_some_iff.mp h1).1
    have := (nI_eq (by omega) (by omega)).mp (e.symm.trans h2)
    omega
theorem TKr.loc (hn : HN T N L) (K : TKr L b s ti ty) (ht : ∀ k, k < 1600 → ti = nI k → 800 * b ≤ k ∧ k < 800 * b + 800) (e : SBq b s s') : TKr L b s' ti ty := by
  match ty, K with
  | 0, K => exact K
  | 1, K => exact K.elim
  | kk + 2, ⟨v, k, k1, k2, k3, k4, k5⟩ =>
    have n5 := (vK.n5 hn (v.cl hn)).2
    have w := ht k k1 k2
    refine ⟨v, k, k1, k2, ?_, ?_, fun a ha => ?_⟩
    · rw [e.2.1 138 k (inB.i7 (by decide) (by omega) (by omega))]; exact k3
    · rw [e.2.1 139 k (inB.i7 (by decide) (by omega) (by omega))]; exact k4
    · rw [e.2.1 142 (5 * k + a) (inB.i8 (by decide) (by omega) (by omega))]; exact k5 a ha
theorem RJ.loc (J : RJ T N b ks L s) (e : SBq b s s') : RJ T N b ks L s' := by
  have hb := J.b1
  have m384 := J.n384
  have h16 := J.len
  obtain ⟨⟨e63, e129⟩, q, l⟩ := e
  obtain ⟨⟨a1, a2⟩, ⟨b1, b2, b3⟩, c1, c750, d1⟩ := J
  refine ⟨⟨a1, by rw [e63]; exact a2⟩, ⟨by rw [q 100 b (inB.i0 (by decide))]; exact b1, by rw [q 120 b (inB.i0 (by decide))]; exact b2, fun c E hc => ?_⟩, fun i t ht => ?_, c750, d1⟩
  · have cl := (List.getElem?_eq_some_iff.mp hc).1
    have tk := nMem_take hc
    obtain ⟨⟨x1, x2, x3, x4, x5, x6, x7, x8, x9⟩, y, zz⟩ := b3 c E hc
    refine ⟨⟨by rw [l 101 _ (inBL.i0 (by decide) (by omega) (by omega))]; exact x1, by rw [q 102 _ (inB.i1 (by decide) (by omega) (by omega))]; exact x2, ?_, fun e => ?_, fun e => ?_, ?_, by rw [q 107 _ (inB.i1 (by decide) (by omega) (by omega))]; exact x7, x8, x9⟩, by rw [q 108 _ (inB.i1 (by decide) (by omega) (by omega))]; exact y, fun j md hj => ?_⟩
    · refine ⟨by rw [q 104 _ (inB.i1 (by decide) (by omega) (by omega))]; exact x3.1, fun j hj => ?_⟩
      rw [l 111 _ (inBL.i1 (by decide) (by omega) (by omega)), q 112 _ (inB.i2 (by decide) (by omega) (by omega))]
      exact x3.2 j hj
    · rw [q 103 _ (inB.i1 (by decide) (by omega) (by omega)), q 105 _ (inB.i1 (by decide) (by omega) (by omega))]; exact x4 e
    · rw [q 103 _ (inB.i1 (by decide) (by omega) (by omega)), q 105 _ (inB.i1 (by decide) (by omega) (by omega))]; exact x5 e
    · refine ⟨by rw [q 106 _ (inB.i1 (by decide) (by omega) (by omega))]; exact x6.1, fun j hj => ?_⟩
      rw [l 113 _ (inBL.i2 (by decide) (by omega) (by omega)), q 115 _ (inB.i3 (by decide) (by omega) (by omega)), l 114 _ (inBL.i2 (by decide) (by omega) (by omega)), q 116 _ (inB.i3 (by decide) (by omega) (by omega))]
      exact x6.2 j hj
    · have jl := (List.getElem?_eq_some_iff.mp hj).1
      obtain ⟨⟨w1, w2, w3, w4⟩, w5, ⟨w6, w7⟩, w8, w9, w10⟩ := zz j md hj
      refine ⟨⟨by rw [q 124 _ (inB.i5 (by decide) (by omega) (by omega))]; exact w1, by rw [q 126 _ (inB.i5 (by decide) (by omega) (by omega))]; exact w2, by rw [q 127 _ (inB.i5 (by decide) (by omega) (by omega))]; exact w3, by rw [l 132 _ (inBL.i3 (by decide) (by omega) (by omega))]; exact w4⟩, by rw [q 125 _ (inB.i5 (by decide) (by omega) (by omega))]; exact w5, ⟨by rw [q 128 _ (inB.i5 (by decide) (by omega) (by omega))]; exact w6, fun x p hp => ?_⟩, by rw [q 129 _ (inB.i5 (by decide) (by omega) (by omega))]; exact w8, by rw [q 131 _ (inB.i5 (by decide) (by omega) (by omega))]; exact w9, w10⟩
      have xl := (List.getElem?_eq_some_iff.mp hp).1
      rw [q 133 _ (inB.i6 (by decide) (by omega) (by omega)), q 134 _ (inB.i6 (by decide) (by omega) (by omega)), l 135 _ (inBL.i4 (by decide) (by omega) (by omega))]
      exact w7 x p hp
  · have il := (List.getElem?_eq_some_iff.mp ht).1
    obtain ⟨w1, w2, w3, w4, w5⟩ := c1 i t ht
    refine ⟨w1, by rw [l 136 _ (inBL.i5 (by decide) (by omega) (by omega))]; exact w2, by rw [q 137 _ (inB.i7 (by decide) (by omega) (by omega))]; exact w3, by rw [q 138 _ (inB.i7 (by decide) (by omega) (by omega))]; exact w4, fun x hx => ?_⟩
    rw [l 140 _ (inBL.i6 (by decide) (by omega) (by omega)), q 141 _ (inB.i8 (by decide) (by omega) (by omega))]
    exact w5 x hx
theorem BS.loc (F : FX T N b ks L tr) (B : BS T N b ks L tr s) (e : SBq b s s') : BS T N b ks L tr s' := by
  obtain ⟨⟨J, W, I, tt⟩, Q, P⟩ := B
  have hb := J.b1
  have m384 := J.n384
  have h16 := J.len
  have l750 := J.2.2.2.1
  have hn := J.2.2.2.2.2.1
  have q := e.2.1
  obtain ⟨O1, O2, O3⟩ := F.2.1
  refine ⟨⟨J.loc e, fun c hc a ha x hx => ?_, fun c hc i hi => ?_, by rw [e.1.2]; exact tt⟩, ⟨fun m hm => ⟨?_, fun i hi => ?_⟩, fun c hc => ?_⟩, fun c hc => ?_, fun m hm => ?_, fun c hc m hm ms v => ?_⟩
  · have r1 := rwR_lt ha
    have r2 := rwR_lt hx
    rw [q 119 _ (inB.i4 (by decide) (by omega) (by omega))]
    exact W c hc a ha x hx
  · have i8 : inL L c ≤ 8 := (J.hd hc).2.2.2.2.2.2.2.2
    rw [q 117 _ (inB.i3 (by decide) (by omega) (by omega)), q 118 _ (inB.i3 (by decide) (by omega) (by omega))]
    exact I c hc i hi
  · obtain ⟨M1, _⟩ := J.mem hm
    rw [q 126 _ (inB.i5 (by decide) (by omega) (by omega))]
    refine ((Q.1 m hm).1).loc hn ?_ e
    rw [show s.1 126 (400 * b + m) = (mdM L m).2.2.2.2.2.2.2 from M1.1.2.1]
    exact (O1 m hm).1.bk2 l750 hb
  · obtain ⟨M1, _⟩ := J.mem hm
    have p6 := (J.p6 hm).2
    obtain ⟨p, hp⟩ : ∃ p, (psM L m)[i]? = some p := ⟨_, List.getElem?_eq_getElem hi⟩
    rw [q 133 _ (inB.i6 (by decide) (by omega) (by omega))]
    refine ((Q.1 m hm).2 i hi).loc hn ?_ e
    rw [show s.1 133 (6 * (400 * b + m) + i) = p.2.2 from (M1.2.2.1.2 i p hp).1]
    exact ((O1 m hm).2 i p hp).1.bk2 l750 hb
  · have A := Q.2 c hc
    unfold ABr at A ⊢
    rw [q 105 _ (inB.i1 (by decide) (by omega) (by omega))]
    cases ha : abT T L c with
    | none => rw [ha] at A; exact A
    | some kk =>
      rw [ha] at A
      obtain ⟨v, k, k1, k2, k3, k4, k5⟩ := A
      have n5 := (vK.n5 hn (v.cl hn)).2
      have zr : ¬ (hC L c).2.2.1 = 0 := fun e => by unfold abT at ha; rw [if_pos e] at ha; cases ha
      obtain ⟨_, i, i1, i2⟩ := (J.hd hc).2.2.2.2.1 zr
      have hi := (List.getElem?_eq_some_iff.mp i1).1
      have ek := (nI_eq (show k < 2 ^ 31 by omega) (show 800 * b + i < 2 ^ 31 by omega)).mp (k2.symm.trans i2)
      refine ⟨v, k, k1, k2, ?_, ?_, fun a ha => ?_⟩
      · rw [q 138 k (inB.i7 (by decide) (by omega) (by omega))]; exact k3
      · rw [q 139 k (inB.i7 (by decide) (by omega) (by omega))]; exact k4
      · rw [q 142 (5 * k + a) (inB.i8 (by decide) (by omega) (by omega))]; exact k5 a ha
  · rw [q 109 _ (inB.i1 (by decide) (by omega) (by omega)), q 110 _ (inB.i1 (by decide) (by omega) (by omega))]; exact P.1 c hc
  · rw [q 130 _ (inB.i5 (by decide) (by omega) (by omega))]; exact P.2.1 m hm
  · have n4 := num_384 F.1 J hm ms
    rw [q 184 _ (inB.i10 (by decide) (by omega) (by omega))]
    exact P.2.2 c hc m hm ms v
theorem Rw.loc {i : Nat} {r : Row} (h : Rw s (5000 * b + i) r) (hi : i < 5000) (e : SBq b s s') : Rw s' (5000 * b + i) r := ⟨by rw [e.2.1 143 _ (inB.i9 (by decide) (by omega) (by omega))]; exact h.1, by rw [e.2.1 144 _ (inB.i9 (by decide) (by omega) (by omega))]; exact h.2.1, by rw [e.2.1 145 _ (inB.i9 (by decide) (by omega) (by omega))]; exact h.2.2.1, by rw [e.2.1 146 _ (inB.i9 (by decide) (by omega) (by omega))]; exact h.2.2.2.1, by rw [e.2.2 147 _ (inBL.i7 (by decide) (by omega) (by omega))]; exact h.2.2.2.2⟩
theorem JBI.loc (H : HBd T N b t rs kb z tr) (I : JBI T N b t rs z tr D s) (e : SBq b s s') : JBI T N b t rs z tr D s' := by
  have hb := H.2.2.2.2.2.2
  have o5 := H.2.2.2.1
  have k75 := H.2.2.2.2.2.1
  have hn := I.1.1.1.2.2.2.2.2.1
  refine ⟨I.1.loc H.2.2.1 e, by rw [e.2.1 123 b (inB.i0 (by decide))]; exact I.2.1, fun m hm im => ?_⟩
  obtain ⟨f1, f2, f3, f4, f5⟩ := H.1 m hm im
  obtain ⟨i1, i2, i3⟩ := I.2.2 m hm im
  have en := (List.getElem?_eq_some_iff.mp f4.ov.1).1
  refine ⟨Rw.loc i1 (by omega) e, fun hd => ?_, fun hd k r hk => ?_⟩
  · intro k r hk j1 l1 hj
    have kl := (List.getElem?_eq_some_iff.mp hk).1
    obtain ⟨a1, a2⟩ := i2 hd k r hk j1 l1 hj
    refine ⟨Rw.loc a1 (by omega) e, fun h kk hkk => ?_⟩
    have K := a2 h kk hkk
    rw [(EvR_1 m).2] at K ⊢
    refine K.loc hn (fun y hy ey => ?_) e
    obtain ⟨X, x1, x2, x3⟩ := sdW_kd _ _ _ f1 k r hk h
    have x2' : kqT T rs kb m ≤ X := x2
    obtain ⟨u, hu⟩ : ∃ u, (zT rs z m).2.2.1[X - kqT T rs kb m]? = some u := ⟨_, List.getElem?_eq_getElem (by omega)⟩
    have w := f3.2.1.2 _ u hu
    have b0 := f3.2.1.1
    have := (List.getElem?_eq_some_iff.mp w).1
    rw [x1] at ey
    have := (nI_eq (by omega) (by omega)).mp ey
    omega
  · have kl := (List.getElem?_eq_some_iff.mp hk).1
    exact Rw.loc (i3 hd k r hk) (by omega) e
end MJB18
end
section
/-! ===== the reference's load ===== -/
/-- all that load changes when it refuses -/
def oLm (b : Nat) : mjSt3 → mjSt3 → Prop := offG (fun h j => chRd b h j ∨ chJA b h j ∨ (h = 97 ∧ (j = 1 ∨ j = 2 ∨ j = 59 ∨ j = 60 ∨ j = 61 ∨ j = 63 ∨ j = 129))) (fun h j => chRdL b h j ∨ h = 158)
/-- the new program is taken -/
def RSt (b : Nat) (s s' : mjSt3) : Prop := offG (fun h j => h = 97 ∧ (j = 9 ∨ j = 10 ∨ j = 96 ∨ j = 116)) (fun _ _ => False) s s' ∧ s'.1 97 9 = nI b ∧ s'.1 97 10 = 1 ∧ s'.1 97 96 = 0 ∧ s'.1 97 116 = 0
section MJB19
variable {T : TT} {tx ty : Nat → Int32} {N b h n tp : Nat} {tr : Bool} {s s' : mjSt3}
theorem mTT_cg (e : ∀ i, i < n → tx i = ty i) (hb : ∀ i, i < n → byR (tx i)) : mTT tx n = mTT ty n := by
  unfold mTT
  funext k
  rw [cg_tD e hb k, cg_tS e hb k]
theorem NKp_m (hb : ∀ i, i < n → byR (tx i)) : NKp (mTT tx n) N := by
  intro t _ h3
  have h3' : (tD tx n t).1 = 3 := h3
  obtain ⟨w1, w2, _⟩ := nm_let hb (k := t) (Or.inr h3')
  have big := rN_big (g := gM) (fun b hb => (cd_of hb).2.1) w1 w2
  have k : (lN (rN gM (tD tx n t).2.1)).toInt = (rN gM (tD tx n t).2.1 : Int) := pk_lT big
  have e : kyT (mTT tx n) t = lN (rN gM (tD tx n t).2.1) := rfl
  rw [e]
  constructor
  · intro q
    rw [q] at k
    have z : (-1 : Int64).toInt = -1 := by decide
    omega
  · intro q
    rw [q] at k
    have z : (-2 : Int64).toInt = -2 := by decide
    omega
theorem b2_bz (v : Bool) : (b2 v == 0 || b2 v == 1) = true := by cases v <;> rfl
/-- a bad state to the end -/
theorem x_260b (R : mjR) (B : bR0 s) : ∃ s', b_260_59 R 97 (mjW0 s) = some (some (.int (s.1 97 61)), mjW0 s') ∧ offG (fun h j => h = 97 ∧ (j = 59 ∨ j = 60)) (fun _ _ => False) s s' := by
  obtain ⟨z1, g1⟩ : ∃ y, y = uI s 97 (upd (s.1 97) 59 (s.1 97 61)) := ⟨_, rfl⟩
  obtain ⟨z2, g2⟩ : ∃ y, y = uI z1 97 (upd (z1.1 97) 60 (z1.1 97 62)) := ⟨_, rfl⟩
  have f1 : z1.1 97 61 = s.1 97 61 := by rw [g1, uI_same, upd_g, if_neg (by decide)]
  have f2 : z2.1 97 61 = s.1 97 61 := by rw [g2, uI_same, upd_g, if_neg (by decide), f1]
  refine ⟨z2, ?_, offG.tr (b := z1) (by rw [g1]; exact offG.w ⟨rfl, by omega⟩) (by rw [g2]; exact offG.w ⟨rfl, by omega⟩)⟩
  unfold b_260_59
  rw [xg_97_61, xp_97_59, ← g1, xg_97_61, f1, if_neg B.ng, xg_97_62]
  unfold b_260_83
  rw [xp_97_60, ← g2, xg_97_61, f2, if_neg B, xg_97_61, f2]
/-- a good one -/
theorem x_260g (R : mjR) (g : gR0 s) (h63 : s.1 97 63 = nI b) : ∃ s1 s', b_260_59 R 97 (mjW0 s) = some (some (.int 0), mjW0 s') ∧ offG (fun h j => h = 97 ∧ (j = 59 ∨ j = 60)) (fun _ _ => False) s s1 ∧ RSt b s1 s' := by
  obtain ⟨z1, g1⟩ : ∃ y, y = uI s 97 (upd (s.1 97) 59 (s.1 97 61)) := ⟨_, rfl⟩
  obtain ⟨z2, g2⟩ : ∃ y, y = uI z1 97 (upd (z1.1 97) 60 (-1)) := ⟨_, rfl⟩
  obtain ⟨z3, g3⟩ : ∃ y, y = uI z2 97 (upd (z2.1 97) 9 (nI b)) := ⟨_, rfl⟩
  obtain ⟨z4, g4⟩ : ∃ y, y = uI z3 97 (upd (z3.1 97) 10 1) := ⟨_, rfl⟩
  obtain ⟨z5, g5⟩ : ∃ y, y = uI z4 97 (upd (z4.1 97) 96 0) := ⟨_, rfl⟩
  obtain ⟨z6, g6⟩ : ∃ y, y = uI z5 97 (upd (z5.1 97) 116 0) := ⟨_, rfl⟩
  have v1 : ∀ j, z1.1 97 j = if j = 59 then s.1 97 61 else s.1 97 j := fun j => by rw [g1, uI_same, upd_g]
  have v2 : ∀ j, z2.1 97 j = if j = 60 then -1 else z1.1 97 j := fun j => by rw [g2, uI_same, upd_g]
  have v3 : ∀ j, z3.1 97 j = if j = 9 then nI b else z2.1 97 j := fun j => by rw [g3, uI_same, upd_g]
  have v4 : ∀ j, z4.1 97 j = if j = 10 then 1 else z3.1 97 j := fun j => by rw [g4, uI_same, upd_g]
  have v5 : ∀ j, z5.1 97 j = if j = 96 then 0 else z4.1 97 j := fun j => by rw [g5, uI_same, upd_g]
  have v6 : ∀ j, z6.1 97 j = if j = 116 then 0 else z5.1 97 j := fun j => by rw [g6, uI_same, upd_g]
  have f1 : z1.1 97 61 = 0 := by rw [v1, if_neg (by decide)]; exact g
  have f2 : z2.1 97 61 = 0 := by rw [v2, if_neg (by decide)]; exact f1
  have f3 : z2.1 97 63 = nI b := by rw [v2, if_neg (by decide), v1, if_neg (by decide)]; exact h63
  refine ⟨z2, z6, ?_, offG.tr (b := z1) (by rw [g1]; exact offG.w ⟨rfl, by omega⟩) (by rw [g2]; exact offG.w ⟨rfl, by omega⟩), offG.tr (b := z3) (by rw [g3]; exact offG.w ⟨rfl, by omega⟩) (offG.tr (b := z4) (by rw [g4]; exact offG.w ⟨rfl, by omega⟩) (offG.tr (b := z5) (by rw [g5]; exact offG.w ⟨rfl, by omega⟩) (by rw [g6]; exact offG.w ⟨rfl, by omega⟩))), ?_, ?_, ?_, ?_⟩
  · unfold b_260_59
    rw [xg_97_61, xp_97_59, ← g1, xg_97_61, f1, if_pos rfl]
    unfold b_260_83
    rw [xp_97_60, ← g2, xg_97_61, f2, if_pos (Int32.le_refl _), xg_97_63, f3, xp_97_9, ← g3, xp_97_10 (by decide), ← g4, xp_97_96, ← g5, xp_97_116, ← g6]
  · rw [v6, if_neg (by decide), v5, if_neg (by decide), v4, if_neg (by decide), v3, if_pos rfl]
  · rw [v6, if_neg (by decide), v5, if_neg (by decide), v4, if_pos rfl]
  · rw [v6, if_neg (by decide), v5, if_pos rfl]
  · rw [v6, if_pos rfl]
theorem oLm_97 (o : offG (fun h j => h = 97 ∧ (j = 59 ∨ j = 60)) (fun _ _ => False) s s') : oLm b s s' := offG.mono o (fun x y w => Or.inr (Or.inr ⟨w.1, by omega⟩)) (fun _ _ x => x.elim)
/-- load at a number of signs that the tape has -/
theorem x_260 (hta : s.1 97 1 = nI tp) (htp : tp ≤ 3000) (hn : n ≤ tp) (hbt : ∀ i, i < n → byR (s.1 98 i)) (hw : ∀ i, i < 16 → s.2.1 99 (i + 1) = lN (rN gM (wdL.getD i []))) (h9 : s.1 97 9 = nI h) (hh : h ≤ 1) (hN : N ≤ 3000) (h0 : (mTT (s.1 98) n N).1 = 0) : match pText (mTT (s.1 98) n) (N + 1) (800 * (1 - h)) with
    | .inl _ => ∃ v s', ¬ v = 0 ∧ mjF 1999 260 [.ref 97, .int (nI n), .int (b2 tr)] (mjW0 s) = some (some (.int v), mjW0 s') ∧ oLm (1 - h) s s' ∧ s'.1 97 1 = 0
    | .inr t => ∀ rs kb z, TRc (mTT (s.1 98) n) N (800 * (1 - h)) t rs kb z → TRx t rs → (OKz (mTT (s.1 98) n) (800 * (1 - h)) t rs z tr → ∃ s1 s', mjF 1999 260 [.ref 97, .int (nI n), .int (b2 tr)] (mjW0 s) = some (some (.int 0), mjW0 s') ∧ oLm (1 - h) s s1 ∧ s1.1 97 1 = 0 ∧ HBd (mTT (s.1 98) n) N (1 - h) t rs kb z tr ∧ JBI (mTT (s.1 98) n) N (1 - h) t rs z tr (fun _ => True) s1 ∧ RSt (1 - h) s1 s') ∧ (¬ OKz (mTT (s.1 98) n) (800 * (1 - h)) t rs z tr → ∃ v s', ¬ v = 0 ∧ mjF 1999 260 [.ref 97, .int (nI n), .int (b2 tr)] (mjW0 s) = some (some (.int v), mjW0 s') ∧ oLm (1 - h) s s' ∧ s'.1 97 1 = 0) := by
  obtain ⟨b, hb⟩ : ∃ b, b = 1 - h := ⟨_, rfl⟩
  have b1 : b ≤ 1 := by omega
  rw [← hb]
  obtain ⟨z1, g1⟩ : ∃ y, y = uI s 97 (upd (s.1 97) 1 0) := ⟨_, rfl⟩
  obtain ⟨z2, g2⟩ : ∃ y, y = uI z1 97 (upd (z1.1 97) 2 (nI n)) := ⟨_, rfl⟩
  obtain ⟨z3, g3⟩ : ∃ y, y = uI z2 97 (upd (z2.1 97) 63 (nI b)) := ⟨_, rfl⟩
  obtain ⟨z4, g4⟩ : ∃ y, y = uI z3 97 (upd (z3.1 97) 61 0) := ⟨_, rfl⟩
  obtain ⟨z5, g5⟩ : ∃ y, y = uI z4 97 (upd (z4.1 97) 129 (b2 tr)) := ⟨_, rfl⟩
  have v1 : ∀ j, z1.1 97 j = if j = 1 then 0 else s.1 97 j := fun j => by rw [g1, uI_same, upd_g]
  have v2 : ∀ j, z2.1 97 j = if j = 2 then nI n else z1.1 97 j := fun j => by rw [g2, uI_same, upd_g]
  have v3 : ∀ j, z3.1 97 j = if j = 63 then nI b else z2.1 97 j := fun j => by rw [g3, uI_same, upd_g]
  have v4 : ∀ j, z4.1 97 j = if j = 61 then 0 else z3.1 97 j := fun j => by rw [g4, uI_same, upd_g]
  have v5 : ∀ j, z5.1 97 j = if j = 129 then b2 tr else z4.1 97 j := fun j => by rw [g5, uI_same, upd_g]
  have w1 : z5.1 97 1 = 0 := by rw [v5, if_neg (by decide), v4, if_neg (by decide), v3, if_neg (by decide), v2, if_neg (by decide), v1, if_pos rfl]
  have w2 : z5.1 97 2 = nI n := by rw [v5, if_neg (by decide), v4, if_neg (by decide), v3, if_neg (by decide), v2, if_pos rfl]
  have w63 : z5.1 97 63 = nI b := by rw [v5, if_neg (by decide), v4, if_neg (by decide), v3, if_pos rfl]
  have w61 : z5.1 97 61 = 0 := by rw [v5, if_neg (by decide), v4, if_pos rfl]
  have w129 : z5.1 97 129 = b2 tr := by rw [v5, if_pos rfl]
  have u9 : z2.1 97 9 = nI h := by rw [v2, if_neg (by decide), v1, if_neg (by decide)]; exact h9
  have o5 : oLm b s z5 := offG.tr (b := z1) (by rw [g1]; exact offG.w (Or.inr (Or.inr ⟨rfl, by omega⟩))) (offG.tr (b := z2) (by rw [g2]; exact offG.w (Or.inr (Or.inr ⟨rfl, by omega⟩))) (offG.tr (b := z3) (by rw [g3]; exact offG.w (Or.inr (Or.inr ⟨rfl, by omega⟩))) (offG.tr (b := z4) (by rw [g4]; exact offG.w (Or.inr (Or.inr ⟨rfl, by omega⟩))) (by rw [g5]; exact offG.w (Or.inr (Or.inr ⟨rfl, by omega⟩))))))
  have r5 : ∀ x, ¬ x = 97 → z5.1 x = s.1 x := fun x e => by rw [g5, uI_ne _ _ _ _ e, g4, uI_ne _ _ _ _ e, g3, uI_ne _ _ _ _ e, g2, uI_ne _ _ _ _ e, g1, uI_ne _ _ _ _ e]
  have l5 : z5.2 = s.2 := by rw [g5, g4, g3, g2, g1]; rfl
  have mb : MB (s.1 98) n z5 := ⟨by omega, w2, r5 98 (by decide), hbt, fun i hi => by rw [l5]; exact hw i hi⟩
  have A := m_all (D := 1982) (b := b) h0 hN mb b1 w61 w63
  have pre : mjF 1999 260 [.ref 97, .int (nI n), .int (b2 tr)] (mjW0 s) = bN (mjF 1998 261 [.ref 97] (mjW0 z5)) (fun hp8 => gI hp8 97 12 61 (fun v9 => (if v9 = 0 then rV hp8 97 12 (bN (mjF 1998 299 [.ref 97] hp8) (fun hp10 => b_260_59 (mjF 1998) 97 hp10)) else b_260_59 (mjF 1998) 97 hp8))) := by
    rw [show (1999 : Nat) = 1998 + 1 from rfl, e_260]
    unfold f_260 b_260_0
    rw [if_neg (nI_pos (show n < 2 ^ 31 by omega)), xg_97_1, hta, if_pos (nI_le hn (by omega)), xp_97_1, ← g1, xp_97_2, ← g2, xg_97_9, u9, show (1 : Int32) - nI h = nI b by
      have : h = 0 ∨ h = 1 := by omega
      rcases this with e | e
      · subst e; subst hb; rfl
      · subst e; subst hb; rfl, xp_97_63, ← g3, xp_97_61, ← g4, xp_97_129 (b2_bz tr), ← g5, xV_97]
  have bad : ∀ x, oLm b s x → x.1 97 1 = 0 → bR0 x → mjF 1999 260 [.ref 97, .int (nI n), .int (b2 tr)] (mjW0 s) = b_260_59 (mjF 1998) 97 (mjW0 x) → ∃ v s', ¬ v = 0 ∧ mjF 1999 260 [.ref 97, .int (nI n), .int (b2 tr)] (mjW0 s) = some (some (.int v), mjW0 s') ∧ oLm b s s' ∧ s'.1 97 1 = 0 := by
    intro x ox hx B e
    obtain ⟨s', a1, a2⟩ := x_260b (mjF 1998) B
    exact ⟨_, s', B.ng, e.trans a1, offG.tr ox (oLm_97 a2), by rw [a2.1 97 1 (by omega)]; exact hx⟩
  cases hP : pText (mTT (s.1 98) n) (N + 1) (800 * b) with
  | inl e =>
    rw [hP] at A
    obtain ⟨s1, x, a1, a2, a3⟩ := A
    obtain ⟨_, e1, e2, _⟩ := a2
    have B : bR0 s1 := by
      unfold bR0
      rw [e2]
      rcases e1 with e1 | e1 | e1 <;> rw [e1] <;> decide
    have o1 : oLm b s s1 := offG.tr o5 (offG.mono a3 (fun x y w => Or.inl w) (fun x y w => Or.inl w))
    refine bad s1 o1 ?_ B ?_
    · rw [a3.1 97 1 (by unfold chRd chS chE; omega)]; exact w1
    · have a1' : mjF 1998 261 [.ref 97] (mjW0 z5) = some (none, mjW0 s1) := a1
      rw [pre, a1', bN_s, xg_97_61, if_neg B.ng]
  | inr t =>
    rw [hP] at A
    obtain ⟨s1, W', c, a1, M, rc, h123, h16, h24, l1, l2, _, a3⟩ := A
    intro rs kb z R X
    have o1 : oLm b s s1 := offG.tr o5 (offG.mono a3 (fun x y w => Or.inl w) (fun x y w => Or.inl w))
    have a1' : mjF 1998 261 [.ref 97] (mjW0 z5) = some (none, mjW0 s1) := a1
    have g61 : s1.1 97 61 = 0 := M.2.1.2.1
    have w1' : s1.1 97 1 = 0 := by rw [a3.1 97 1 (by unfold chRd chS chE; omega)]; exact w1
    have w129' : s1.1 97 129 = b2 tr := by rw [a3.1 97 129 (by unfold chRd chS chE; omega)]; exact w129
    have J : RJ (mTT (s.1 98) n) N b t.2.2.1 t.1 s1 := ⟨⟨b1, M.2.1.2.2.1⟩, rc, M.2.2.2.2.2, by omega, h24, R.hn0 h16, NKp_m hbt⟩
    obtain ⟨s2, c1, o2, c3⟩ := x_299 (d := 1989) (tr := tr) R X (pText_st hP) hN h0 (by omega) J w129' g61 M.2.2.2.1.2 h123
    have pre2 : mjF 1999 260 [.ref 97, .int (nI n), .int (b2 tr)] (mjW0 s) = b_260_59 (mjF 1998) 97 (mjW0 s2) := by
      have c1' : mjF 1998 299 [.ref 97] (mjW0 s1) = some (none, mjW0 s2) := c1
      rw [pre, a1', bN_s, xg_97_61, if_pos g61, xV_97, c1', bN_s]
    have o2' : oLm b s s2 := offG.tr o1 (offG.mono o2 (fun x y w => Or.inr (Or.inl w)) (fun x y w => Or.inr w))
    have w1'' : s2.1 97 1 = 0 := by rw [o2.1 97 1 (by unfold chJA; omega)]; exact w1'
    rcases c3 with ⟨ok, k2, k3, k4⟩ | ⟨nok, k2⟩
    · refine ⟨fun _ => ?_, fun h => absurd ok h⟩
      obtain ⟨s3, s4, d1, d2, d3⟩ := x_260g (b := b) (mjF 1998) k2 k4.1.1.1.1.2
      refine ⟨s3, s4, pre2.trans d1, offG.tr o2' (oLm_97 d2), by rw [d2.1 97 1 (by omega)]; exact w1'', k3, ?_, d3⟩
      have f : ∀ j, ¬ (j = 59 ∨ j = 60) → s3.1 97 j = s2.1 97 j := fun j hj => d2.1 97 j (by omega)
      have r3 : ∀ x, ¬ x = 97 → s3.1 x = s2.1 x := fun x hx => funext fun y => d2.1 x y (by omega)
      have l3 : s3.2 = s2.2 := Prod.ext (funext fun x => funext fun j => d2.2.1 x j (fun e => e)) d2.2.2
      exact k4.loc k3 ⟨⟨f 63 (by omega), f 129 (by omega)⟩, fun x y hx => by rw [r3 x (by unfold inB at hx; omega)], fun x y _ => by rw [l3]⟩
    · exact ⟨fun h => absurd h nok, fun _ => bad s2 o2' w1'' k2 pre2⟩
end MJB19
end
section
/-! ===== the orders' brackets: what waits at each order ===== -/
/-- what waits: (0, 0, 0) a value, (1, 0, 0) a NAME left of =, (1, 1, 0) a FIELD left of =, (n + 2, i) a call: n values are asked for, i are there; its NAME -/
abbrev GS : Type := List (Nat × Nat × Int64)
def bmG : GS → GS
  | e :: l => (e.1, e.2.1 + 1, e.2.2) :: l
  | [] => []
def nxG (r : Row) (G : GS) : GS :=
  if r.1 = 3 ∨ r.1 = 4 ∨ r.1 = 5 ∨ r.1 = 6 ∨ r.1 = 7 then (0, 0, 0) :: G
  else if r.1 = 9 then G.tail
  else if r.1 = 11 then (nN r.2.2.2.1 + 2, 0, r.2.2.2.2) :: G.tail
  else if r.1 = 12 then bmG G.tail
  else if r.1 = 13 then (0, 0, 0) :: G.tail
  else if r.1 = 15 then (1, 0, 0) :: G
  else if r.1 = 16 then (1, 1, 0) :: G.tail
  else if r.1 = 17 ∨ r.1 = 18 then G.tail.tail
  else if r.1 = 20 ∨ r.1 = 21 ∨ r.1 = 24 ∨ r.1 = 25 ∨ r.1 = 28 then G.tail
  else G
/-- an order in its place -/
def okG (r : Row) (G : GS) : Prop := (r.1 = 3 ∨ r.1 = 4 ∨ r.1 = 5 ∨ r.1 = 6 ∨ r.1 = 7) ∨ (r.1 = 9 ∧ ∃ l, G = (0, 0, 0) :: (0, 0, 0) :: l) ∨ ((r.1 = 8 ∨ r.1 = 10 ∨ r.1 = 14 ∨ r.1 = 30) ∧ ∃ l, G = (0, 0, 0) :: l) ∨ (r.1 = 11 ∧ ∃ n l, n ≤ 6 ∧ r.2.2.2.1 = nI n ∧ G = (0, 0, 0) :: l) ∨ (r.1 = 12 ∧ ∃ n i w l, G = (0, 0, 0) :: (n + 2, i, w) :: l ∧ i < n ∧ n ≤ 6 ∧ r.2.2.1 = nI i) ∨ (r.1 = 13 ∧ ∃ n l, n ≤ 6 ∧ r.2.2.1 = nI n ∧ G = (n + 2, n, r.2.2.2.2) :: l) ∨ (r.1 = 15 ∧ G = []) ∨ (r.1 = 16 ∧ G = [(0, 0, 0)]) ∨ (r.1 = 17 ∧ G = [(0, 0, 0), (1, 0, 0)]) ∨ (r.1 = 18 ∧ G = [(0, 0, 0), (1, 1, 0)]) ∨ ((r.1 = 20 ∨ r.1 = 21 ∨ r.1 = 24 ∨ r.1 = 25 ∨ (r.1 = 28 ∧ r.2.2.1 = 1)) ∧ G = [(0, 0, 0)]) ∨ ((r.1 = 1 ∨ r.1 = 2 ∨ r.1 = 19 ∨ r.1 = 22 ∨ r.1 = 23 ∨ r.1 = 26 ∨ r.1 = 27) ∧ G = [])
def sdG : List Row → GS → Prop
  | [], _ => True
  | r :: l, G => okG r G ∧ sdG l (nxG r G)
def fdG : List Row → GS → GS
  | [], G => G
  | r :: l, G => fdG l (nxG r G)
def gdG (os : List Row) : Prop := ∀ G : GS, sdG os G ∧ fdG os G = (0, 0, 0) :: G
/-- a call's orders, behind its object; its values -/
def gdGC (os : List Row) : Prop := ∀ G : GS, sdG os ((0, 0, 0) :: G) ∧ fdG os ((0, 0, 0) :: G) = (0, 0, 0) :: G
def gdGA (k : Nat) (os : List Row) : Prop := ∀ (n : Nat) (w : Int64) (G : GS), k ≤ n → n ≤ 6 → sdG os ((n + 2, 0, w) :: G) ∧ fdG os ((n + 2, 0, w) :: G) = (n + 2, k, w) :: G
section MJB20
variable {T : TT} {M : Nat}
theorem okG.a {r : Row} {G : GS} (h : r.1 = 3 ∨ r.1 = 4 ∨ r.1 = 5 ∨ r.1 = 6 ∨ r.1 = 7) : okG r G := Or.inl h
theorem okG.two {r : Row} {G : GS} (h : r.1 = 9) : okG r ((0, 0, 0) :: (0, 0, 0) :: G) := Or.inr (Or.inl ⟨h, G, rfl⟩)
theorem okG.one {r : Row} {G : GS} (h : r.1 = 8 ∨ r.1 = 10 ∨ r.1 = 14 ∨ r.1 = 30) : okG r ((0, 0, 0) :: G) := Or.inr (Or.inr (Or.inl ⟨h, G, rfl⟩))
theorem okG.ask {r : Row} {G : GS} {n : Nat} (h : r.1 = 11) (hn : n ≤ 6) (e : r.2.2.2.1 = nI n) : okG r ((0, 0, 0) :: G) := Or.inr (Or.inr (Or.inr (Or.inl ⟨h, n, G, hn, e, rfl⟩)))
theorem okG.arg {r : Row} {G : GS} {n i : Nat} {w : Int64} (h : r.1 = 12) (hi : i < n) (hn : n ≤ 6) (e : r.2.2.1 = nI i) : okG r ((0, 0, 0) :: (n + 2, i, w) :: G) := Or.inr (Or.inr (Or.inr (Or.inr (Or.inl ⟨h, n, i, w, G, rfl, hi, hn, e⟩))))
theorem okG.call {r : Row} {G : GS} {n : Nat} (h : r.1 = 13) (hn : n ≤ 6) (e : r.2.2.1 = nI n) : okG r ((n + 2, n, r.2.2.2.2) :: G) := Or.inr (Or.inr (Or.inr (Or.inr (Or.inr (Or.inl ⟨h, n, G, hn, e, rfl⟩)))))
theorem okG.l {r : Row} (h : r.1 = 15) : okG r [] := Or.inr (Or.inr (Or.inr (Or.inr (Or.inr (Or.inr (Or.inl ⟨h, rfl⟩))))))
theorem okG.f {r : Row} (h : r.1 = 16) : okG r [(0, 0, 0)] := Or.inr (Or.inr (Or.inr (Or.inr (Or.inr (Or.inr (Or.inr (Or.inl ⟨h, rfl⟩)))))))
theorem okG.p {r : Row} (h : r.1 = 17) : okG r [(0, 0, 0), (1, 0, 0)] := Or.inr (Or.inr (Or.inr (Or.inr (Or.inr (Or.inr (Or.inr (Or.inr (Or.inl ⟨h, rfl⟩))))))))
theorem okG.q {r : Row} (h : r.1 = 18) : okG r [(0, 0, 0), (1, 1, 0)] := Or.inr (Or.inr (Or.inr (Or.inr (Or.inr (Or.inr (Or.inr (Or.inr (Or.inr (Or.inl ⟨h, rfl⟩)))))))))
theorem okG.o {r : Row} (h : r.1 = 20 ∨ r.1 = 21 ∨ r.1 = 24 ∨ r.1 = 25 ∨ (r.1 = 28 ∧ r.2.2.1 = 1)) : okG r [(0, 0, 0)] := Or.inr (Or.inr (Or.inr (Or.inr (Or.inr (Or.inr (Or.inr (Or.inr (Or.inr (Or.inr (Or.inl ⟨h, rfl⟩))))))))))
theorem okG.n {r : Row} (h : r.1 = 1 ∨ r.1 = 2 ∨ r.1 = 19 ∨ r.1 = 22 ∨ r.1 = 23 ∨ r.1 = 26 ∨ r.1 = 27) : okG r [] := Or.inr (Or.inr (Or.inr (Or.inr (Or.inr (Or.inr (Or.inr (Or.inr (Or.inr (Or.inr (Or.inr ⟨h, rfl⟩))))))))))
theorem nxG_a {r : Row} (h : r.1 = 3 ∨ r.1 = 4 ∨ r.1 = 5 ∨ r.1 = 6 ∨ r.1 = 7) (G : GS) : nxG r G = (0, 0, 0) :: G := if_pos h
theorem nxG_9 {r : Row} (h : r.1 = 9) (G : GS) : nxG r G = G.tail := by unfold nxG; rw [h, if_neg (by decide), if_pos rfl]
theorem nxG_11 {r : Row} (h : r.1 = 11) (G : GS) : nxG r G = (nN r.2.2.2.1 + 2, 0, r.2.2.2.2) :: G.tail := by unfold nxG; rw [h, if_neg (by decide), if_neg (by decide), if_pos rfl]
theorem nxG_12 {r : Row} (h : r.1 = 12) (G : GS) : nxG r G = bmG G.tail := by unfold nxG; rw [h, if_neg (by decide), if_neg (by decide), if_neg (by decide), if_pos rfl]
theorem nxG_13 {r : Row} (h : r.1 = 13) (G : GS) : nxG r G = (0, 0, 0) :: G.tail := by unfold nxG; rw [h, if_neg (by decide), if_neg (by decide), if_neg (by decide), if_neg (by decide), if_pos rfl]
theorem nxG_15 {r : Row} (h : r.1 = 15) (G : GS) : nxG r G = (1, 0, 0) :: G := by unfold nxG; rw [h, if_neg (by decide), if_neg (by decide), if_neg (by decide), if_neg (by decide), if_neg (by decide), if_pos rfl]
theorem nxG_16 {r : Row} (h : r.1 = 16) (G : GS) : nxG r G = (1, 1, 0) :: G.tail := by unfold nxG; rw [h, if_neg (by decide), if_neg (by decide), if_neg (by decide), if_neg (by decide), if_neg (by decide), if_neg (by decide), if_pos rfl]
theorem nxG_17 {r : Row} (h : r.1 = 17 ∨ r.1 = 18) (G : GS) : nxG r G = G.tail.tail := by unfold nxG; rcases h with h | h <;> rw [h, if_neg (by decide), if_neg (by decide), if_neg (by decide), if_neg (by decide), if_neg (by decide), if_neg (by decide), if_neg (by decide), if_pos (by decide)]
theorem nxG_o {r : Row} (h : r.1 = 20 ∨ r.1 = 21 ∨ r.1 = 24 ∨ r.1 = 25 ∨ r.1 = 28) (G : GS) : nxG r G = G.tail := by unfold nxG; rcases h with h | h | h | h | h <;> rw [h, if_neg (by decide), if_neg (by decide), if_neg (by decide), if_neg (by decide), if_neg (by decide), if_neg (by decide), if_neg (by decide), if_neg (by decide), if_pos (by decide)]
theorem nxG_n {r : Row} (h : r.1 = 8 ∨ r.1 = 10 ∨ r.1 = 14 ∨ r.1 = 30 ∨ r.1 = 1 ∨ r.1 = 2 ∨ r.1 = 19 ∨ r.1 = 22 ∨ r.1 = 23 ∨ r.1 = 26 ∨ r.1 = 27) (G : GS) : nxG r G = G := by unfold nxG; rcases h with h | h | h | h | h | h | h | h | h | h | h <;> rw [h, if_neg (by decide), if_neg (by decide), if_neg (by decide), if_neg (by decide), if_neg (by decide), if_neg (by decide), if_neg (by decide), if_neg (by decide), if_neg (by decide)]
theorem sdG_app : ∀ (a b : List Row) (G : GS), sdG (a ++ b) G ↔ sdG a G ∧ sdG b (fdG a G)
  | [], b, G => ⟨fun h => ⟨trivial, h⟩, fun h => h.2⟩
  | r :: a, b, G => by
    show okG r G ∧ sdG (a ++ b) (nxG r G) ↔ (okG r G ∧ sdG a (nxG r G)) ∧ sdG b (fdG a (nxG r G))
    rw [sdG_app a b, and_assoc]
theorem fdG_app : ∀ (a b : List Row) (G : GS), fdG (a ++ b) G = fdG b (fdG a G)
  | [], _, _ => rfl
  | r :: a, b, G => fdG_app a b (nxG r G)
theorem gdG.two {a b : List Row} {r : Row} (ha : gdG a) (hb : gdG b) (hr : r.1 = 9) : gdG (a ++ b ++ [r]) := by
  intro G
  obtain ⟨a1, a2⟩ := ha G
  obtain ⟨b1, b2⟩ := hb ((0, 0, 0) :: G)
  have f : fdG (a ++ b) G = (0, 0, 0) :: (0, 0, 0) :: G := by rw [fdG_app, a2, b2]
  rw [sdG_app, sdG_app, fdG_app (a ++ b), f, a2]
  exact ⟨⟨⟨a1, b1⟩, okG.two hr, trivial⟩, nxG_9 hr _⟩
theorem gdG.row {a : List Row} {r : Row} (ha : gdG a) (hr : r.1 = 8 ∨ r.1 = 10 ∨ r.1 = 14 ∨ r.1 = 30) : gdG (a ++ [r]) := by
  intro G
  obtain ⟨a1, a2⟩ := ha G
  rw [sdG_app, fdG_app, a2]
  exact ⟨⟨a1, okG.one hr, trivial⟩, nxG_n (by rcases hr with h | h | h | h <;> rw [h] <;> decide) _⟩
theorem gdG.call {a b : List Row} (ha : gdG a) (hb : gdGC b) : gdG (a ++ b) := by
  intro G
  obtain ⟨a1, a2⟩ := ha G
  obtain ⟨b1, b2⟩ := hb G
  rw [sdG_app, fdG_app, a2]
  exact ⟨⟨a1, b1⟩, b2⟩
theorem gdG.atom {r : Row} (hr : r.1 = 3 ∨ r.1 = 4 ∨ r.1 = 5 ∨ r.1 = 6 ∨ r.1 = 7) : gdG [r] := fun G => ⟨⟨okG.a hr, trivial⟩, nxG_a hr G⟩
theorem gdGA.arg {k : Nat} {a b : List Row} {r : Row} (ha : gdGA k a) (hb : gdG b) (hr : r.1 = 12) (hk : r.2.2.1 = nI k) : gdGA (k + 1) (a ++ b ++ [r]) := by
  intro n w G h1 h2
  obtain ⟨a1, a2⟩ := ha n w G (by omega) h2
  obtain ⟨b1, b2⟩ := hb ((n + 2, k, w) :: G)
  have f : fdG (a ++ b) ((n + 2, 0, w) :: G) = (0, 0, 0) :: (n + 2, k, w) :: G := by rw [fdG_app, a2, b2]
  rw [sdG_app, sdG_app, fdG_app (a ++ b), f, a2]
  exact ⟨⟨⟨a1, b1⟩, okG.arg hr (by omega) h2 hk, trivial⟩, nxG_12 hr _⟩
theorem gdGC.mk {n : Nat} {os : List Row} {ra rc : Row} (hz : gdGA n os) (hra : ra.1 = 11) (hrb : ra.2.2.2.1 = nI n) (hrc : rc.1 = 13) (hn : rc.2.2.1 = nI n) (h6 : n ≤ 6) (hw : ra.2.2.2.2 = rc.2.2.2.2) : gdGC (ra :: (os ++ [rc])) := by
  intro G
  obtain ⟨a1, a2⟩ := hz n rc.2.2.2.2 G (Nat.le_refl _) h6
  have n1 : nxG ra ((0, 0, 0) :: G) = (n + 2, 0, rc.2.2.2.2) :: G := by rw [nxG_11 hra, hrb, nN_nI (by omega), hw]; rfl
  refine ⟨⟨okG.ask hra h6 hrb, ?_⟩, ?_⟩
  · rw [n1, sdG_app, a2]
    exact ⟨a1, okG.call hrc h6 hn, trivial⟩
  · show fdG (os ++ [rc]) (nxG ra ((0, 0, 0) :: G)) = _
    rw [n1, fdG_app, a2]
    exact nxG_13 hrc _
theorem pLoop_gg {sg : Int32 → Bool} {rd : Nat → Nat → PX} {kq : Nat} (hr : ∀ c kq y, rd c kq = .inr y → gdG y.2.2.2.1) : ∀ (k : Nat) (z y : PZ), gdG z.2.2.2.1 → pLoop T sg rd kq k z = .inr y → gdG y.2.2.2.1
  | 0, z, y, hz, h => by cases h; exact hz
  | k + 1, z, y, hz, h => by
    unfold pLoop at h
    by_cases q : sg (T z.1).1 = true
    · rw [if_pos q] at h
      cases hd : rd (z.1 + 1) (kq + z.2.2.1.length) with
      | inl e => rw [hd] at h; cases h
      | inr w =>
        rw [hd] at h
        exact pLoop_gg hr k _ y (gdG.two hz (hr _ _ _ hd) rfl) h
    · rw [if_neg q] at h
      cases h
      exact hz
theorem pPost_gg {ra : Nat → Nat → PX} {kq : Nat} (hr : ∀ c kq y, ra c kq = .inr y → gdGC y.2.2.2.1) : ∀ (k : Nat) (z y : PZ), gdG z.2.2.2.1 → pPost T ra kq k z = .inr y → gdG y.2.2.2.1
  | 0, z, y, hz, h => by cases h; exact hz
  | k + 1, z, y, hz, h => by
    unfold pPost at h
    by_cases q : (T z.1).1 = 20
    · rw [if_pos q] at h
      cases hd : pKind T (z.1 + 1) with
      | inl e => rw [hd] at h; cases h
      | inr c' =>
        rw [hd] at h
        exact pPost_gg hr k _ y (gdG.row hz (Or.inr (Or.inr (Or.inl rfl)))) h
    · rw [if_neg q] at h
      by_cases g2 : (T z.1).1 = 46
      · rw [if_pos g2] at h
        by_cases g3 : (T (z.1 + 1)).1 = 3
        · rw [if_pos g3] at h
          by_cases g4 : (T (z.1 + 2)).1 = 40
          · rw [if_pos g4] at h
            cases hd : ra (z.1 + 2) (kq + z.2.2.1.length) with
            | inl e => rw [hd] at h; cases h
            | inr w =>
              rw [hd] at h
              exact pPost_gg hr k _ y (gdG.call hz (hr _ _ _ hd)) h
          · rw [if_neg g4] at h
            exact pPost_gg hr k _ y (gdG.row hz (Or.inr (Or.inl rfl))) h
        · rw [if_neg g3] at h; cases h
      · rw [if_neg g2] at h
        cases h
        exact hz
theorem pArgs_gg {rv : Nat → Nat → PX} {kq : Nat} (hr : ∀ c kq y, rv c kq = .inr y → gdG y.2.2.2.1) : ∀ (n k : Nat) (z : PZ) (y : Nat × PZ), k ≤ 6 → gdGA k z.2.2.2.1 → pArgs T rv kq n k z = .inr y → y.1 ≤ 6 ∧ gdGA y.1 y.2.2.2.2.1
  | 0, k, z, y, hk, hz, h => by cases h
  | n + 1, k, z, y, hk, hz, h => by
    unfold pArgs at h
    by_cases q : k = 6
    · rw [if_pos q] at h; cases h
    · rw [if_neg q] at h
      cases hd : rv z.1 (kq + z.2.2.1.length) with
      | inl e => rw [hd] at h; cases h
      | inr w =>
        rw [hd] at h
        have w2 := hr _ _ _ hd
        by_cases g2 : (T w.1).1 = 44
        · simp only [if_pos g2] at h
          exact pArgs_gg hr n (k + 1) _ y (by omega) (gdGA.arg hz w2 rfl rfl) h
        · simp only [if_neg g2] at h
          by_cases g3 : (T w.1).1 = 41
          · simp only [if_pos g3] at h
            cases h
            exact ⟨by show k + 1 ≤ 6; omega, gdGA.arg hz w2 rfl rfl⟩
          · simp only [if_neg g3] at h; cases h
theorem prE_gg : ∀ (f tag o c kq : Nat) (y : PZ), prE T M f tag o c kq = .inr y → (tag ≤ 5 → gdG y.2.2.2.1) ∧ (tag = 6 → gdGC y.2.2.2.1) := by
  intro f
  induction f with
  | zero => intro tag o c kq y h; cases h
  | succ f ih =>
    intro tag o c kq y h
    refine ⟨fun ht => ?_, fun ht => ?_⟩
    · match tag, ht with
      | 0, _ =>
        rw [prE_0] at h
        cases hd : prE T M f 1 o c kq with
        | inl e => rw [hd] at h; cases h
        | inr z =>
          rw [hd] at h
          have hz := (ih 1 o c kq z hd).1 (by omega)
          by_cases g : isCmp (T z.1).1 = true
          · simp only [if_pos g] at h
            cases hd2 : prE T M f 1 o (z.1 + 1) (kq + z.2.2.1.length) with
            | inl e => rw [hd2] at h; cases h
            | inr w =>
              rw [hd2] at h
              have hw := (ih 1 o _ _ w hd2).1 (by omega)
              cases h
              exact gdG.two hz hw rfl
          · simp only [if_neg g] at h
            cases h
            exact hz
      | 1, _ =>
        rw [prE_1] at h
        cases hd : prE T M f 2 o c kq with
        | inl e => rw [hd] at h; cases h
        | inr z =>
          rw [hd] at h
          exact pLoop_gg (fun c kq y hy => (ih 2 o c kq y hy).1 (by omega)) M z y ((ih 2 o c kq z hd).1 (by omega)) h
      | 2, _ =>
        rw [prE_2] at h
        cases hd : prE T M f 3 o c kq with
        | inl e => rw [hd] at h; cases h
        | inr z =>
          rw [hd] at h
          exact pLoop_gg (fun c kq y hy => (ih 3 o c kq y hy).1 (by omega)) M z y ((ih 3 o c kq z hd).1 (by omega)) h
      | 3, _ =>
        rw [prE_3] at h
        by_cases g : (T c).1 = 45
        · rw [if_pos g] at h
          by_cases g2 : o = 12
          · rw [if_pos g2] at h; cases h
          · rw [if_neg g2] at h
            cases hd : prE T M f 3 (o + 1) (c + 1) kq with
            | inl e => rw [hd] at h; cases h
            | inr z =>
              rw [hd] at h
              have hz := (ih 3 (o + 1) (c + 1) kq z hd).1 (by omega)
              cases h
              exact gdG.row hz (Or.inl rfl)
        · rw [if_neg g] at h
          exact (ih 4 o c kq y h).1 (by omega)
      | 4, _ =>
        rw [prE_4] at h
        cases hd : prE T M f 5 o c kq with
        | inl e => rw [hd] at h; cases h
        | inr z =>
          rw [hd] at h
          exact pPost_gg (fun c kq y hy => (ih 6 o c kq y hy).2 rfl) M z y ((ih 5 o c kq z hd).1 (by omega)) h
      | 5, _ =>
        rw [prE_5] at h
        unfold pAtom at h
        by_cases k3 : (T c).1 = 3
        · rw [if_pos k3] at h; cases h; exact gdG.atom (Or.inr (Or.inr (Or.inr (Or.inl rfl))))
        rw [if_neg k3] at h
        by_cases k4 : (T c).1 = 4
        · rw [if_pos k4] at h; cases h; exact gdG.atom (Or.inl rfl)
        rw [if_neg k4] at h
        by_cases k11 : (T c).1 = 11
        · rw [if_pos k11] at h; cases h; exact gdG.atom (Or.inr (Or.inl rfl))
        rw [if_neg k11] at h
        by_cases k12 : (T c).1 = 12
        · rw [if_pos k12] at h; cases h; exact gdG.atom (Or.inr (Or.inr (Or.inl rfl)))
        rw [if_neg k12] at h
        by_cases k14 : (T c).1 = 14
        · rw [if_pos k14] at h
          cases hd : pKind T (c + 1) with
          | inl e => rw [hd] at h; cases h
          | inr c' =>
            rw [hd] at h
            cases h
            exact gdG.atom (Or.inr (Or.inr (Or.inr (Or.inr rfl))))
        rw [if_neg k14] at h
        by_cases k40 : (T c).1 = 40
        · rw [if_pos k40] at h
          by_cases g2 : o = 12
          · rw [if_pos g2] at h; cases h
          · rw [if_neg g2] at h
            cases hd : prE T M f 0 (o + 1) (c + 1) kq with
            | inl e => rw [hd] at h; cases h
            | inr z =>
              rw [hd] at h
              have hz := (ih 0 (o + 1) (c + 1) kq z hd).1 (by omega)
              by_cases g3 : (T z.1).1 = 41
              · simp only [if_pos g3] at h
                cases h
                exact gdG.row hz (Or.inr (Or.inr (Or.inr rfl)))
              · simp only [if_neg g3] at h; cases h
        · rw [if_neg k40] at h; cases h
    · subst ht
      rw [prE_6] at h
      unfold pCall at h
      by_cases g2 : o = 12
      · rw [if_pos g2] at h; cases h
      · rw [if_neg g2] at h
        by_cases g3 : (T (c + 1)).1 = 41
        · rw [if_pos g3] at h
          cases h
          exact gdGC.mk (n := 0) (os := []) (fun n w G _ _ => ⟨trivial, rfl⟩) rfl rfl rfl rfl (by omega) rfl
        · rw [if_neg g3] at h
          cases hd : pArgs T (prE T M f 0 (o + 1)) kq 7 0 (c + 1, 0, [], [], []) with
          | inl e => rw [hd] at h; cases h
          | inr w =>
            rw [hd] at h
            have ha := pArgs_gg (T := T) (kq := kq) (fun c kq y hy => (ih 0 (o + 1) c kq y hy).1 (by omega)) 7 0 (c + 1, 0, [], [], []) w (by omega) (fun n w G _ _ => ⟨trivial, rfl⟩) hd
            cases h
            exact gdGC.mk ha.2 rfl rfl rfl rfl ha.1 rfl
theorem prV_gg {o c kq : Nat} {y : PZ} (h : prV T M o c kq = .inr y) : gdG y.2.2.2.1 := (prE_gg 100 0 o c kq y h).1 (by omega)
end MJB20
end
section
/-! ===== the orders' brackets: STATEMENTS, and where jumps go ===== -/
/-- the jumps of os, which stands in big from k0 on: forward to a place where nothing waits, or back to a ROUND -/
def JTi (i0 : Nat) (big : List Row) (k0 : Nat) (os : List Row) : Prop := ∀ (k : Nat) (r : Row), os[k]? = some r → (r.1 = 21 ∨ r.1 = 22 → ∃ x, k0 + k < x ∧ x ≤ big.length ∧ r.2.2.1 = nI (i0 + x) ∧ fdG (big.take x) [] = []) ∧ (r.1 = 23 → ∃ x r', x ≤ k0 + k ∧ big[x]? = some r' ∧ r'.1 = 2 ∧ r.2.2.1 = nI (i0 + x))
def nJ (r : Row) : Prop := ¬ (r.1 = 21 ∨ r.1 = 22 ∨ r.1 = 23)
/-- STATEMENTS: nothing waits ahead of them and behind them -/
def gdGS (i0 : Nat) (os : List Row) : Prop := sdG os [] ∧ fdG os [] = [] ∧ JTi i0 os 0 os
section MJB21
variable {T : TT} {M : Nat}
theorem tk_add : ∀ (a b : List Row) (x : Nat), (a ++ b).take (a.length + x) = a ++ b.take x
  | [], b, x => by rw [List.nil_append, List.length_nil, Nat.zero_add]; rfl
  | r :: a, b, x => by rw [List.cons_append, List.length_cons, show a.length + 1 + x = (a.length + x) + 1 by omega, List.take_succ_cons, tk_add a b x]; rfl
theorem tk_le : ∀ (a b : List Row) (x : Nat), x ≤ a.length → (a ++ b).take x = a.take x
  | a, b, 0, _ => by rw [List.take_zero, List.take_zero]
  | [], b, x + 1, h => by rw [List.length_nil] at h; omega
  | r :: a, b, x + 1, h => by
    rw [List.length_cons] at h
    rw [List.cons_append, List.take_succ_cons, List.take_succ_cons, tk_le a b x (by omega)]
theorem JTi.app {i0 k0 : Nat} {big a b : List Row} (ha : JTi i0 big k0 a) (hb : JTi i0 big (k0 + a.length) b) : JTi i0 big k0 (a ++ b) := by
  intro k r hk
  by_cases g : k < a.length
  · rw [List.getElem?_append_left g] at hk
    exact ha k r hk
  · rw [List.getElem?_append_right (by omega)] at hk
    have := hb (k - a.length) r hk
    rw [show k0 + a.length + (k - a.length) = k0 + k by omega] at this
    exact this
theorem JTi.nj {i0 k0 : Nat} {big os : List Row} (h : ∀ r, r ∈ os → nJ r) : JTi i0 big k0 os := by
  intro k r hk
  have := h r (List.mem_of_getElem? hk)
  exact ⟨fun e => absurd (e.elim Or.inl (fun e => Or.inr (Or.inl e))) this, fun e => absurd (Or.inr (Or.inr e)) this⟩
theorem JTi.one {i0 k0 : Nat} {big : List Row} {r : Row} (h1 : r.1 = 21 ∨ r.1 = 22 → ∃ x, k0 < x ∧ x ≤ big.length ∧ r.2.2.1 = nI (i0 + x) ∧ fdG (big.take x) [] = []) (h2 : r.1 = 23 → ∃ x r', x ≤ k0 ∧ big[x]? = some r' ∧ r'.1 = 2 ∧ r.2.2.1 = nI (i0 + x)) : JTi i0 big k0 [r] := by
  intro k y hk
  have hl := (List.getElem?_eq_some_iff.mp hk).1
  rw [List.length_singleton] at hl
  rw [show k = 0 by omega] at hk ⊢
  have e : r = y := by simpa using hk
  rw [← e]
  exact ⟨h1, h2⟩
theorem JTi.sub {i0 : Nat} {a os c : List Row} (h : JTi (i0 + a.length) os 0 os) (ha : fdG a [] = []) : JTi i0 (a ++ (os ++ c)) a.length os := by
  intro k r hk
  obtain ⟨h1, h2⟩ := h k r hk
  refine ⟨fun e => ?_, fun e => ?_⟩
  · obtain ⟨x, x1, x2, x3, x4⟩ := h1 e
    refine ⟨a.length + x, by omega, by rw [List.length_append, List.length_append]; omega, by rw [x3, Nat.add_assoc], ?_⟩
    rw [tk_add, tk_le _ _ _ x2, fdG_app, ha]
    exact x4
  · obtain ⟨x, r', x1, x2, x3, x4⟩ := h2 e
    have xl := (List.getElem?_eq_some_iff.mp x2).1
    refine ⟨a.length + x, r', by omega, ?_, x3, by rw [x4, Nat.add_assoc]⟩
    rw [List.getElem?_append_right (by omega), show a.length + x - a.length = x by omega, List.getElem?_append_left xl]
    exact x2
theorem gdGS.app {i0 : Nat} {a b : List Row} (ha : gdGS i0 a) (hb : gdGS (i0 + a.length) b) : gdGS i0 (a ++ b) := by
  obtain ⟨a1, a2, a3⟩ := ha
  obtain ⟨b1, b2, b3⟩ := hb
  refine ⟨by rw [sdG_app, a2]; exact ⟨a1, b1⟩, by rw [fdG_app, a2]; exact b2, JTi.app ?_ ?_⟩
  · have := JTi.sub (i0 := i0) (a := []) (os := a) (c := b) a3 rfl
    exact this
  · have := JTi.sub (i0 := i0) (a := a) (os := b) (c := []) b3 a2
    rw [List.append_nil] at this
    rw [Nat.zero_add]
    exact this
theorem gdGS.nil {i0 : Nat} : gdGS i0 [] := ⟨trivial, rfl, fun k r h => by cases h⟩
theorem gdGS.one {i0 : Nat} {r : Row} (h : r.1 = 1 ∨ r.1 = 2 ∨ r.1 = 19 ∨ r.1 = 26 ∨ r.1 = 27) : gdGS i0 [r] := by
  refine ⟨⟨okG.n (by rcases h with h | h | h | h | h <;> rw [h] <;> decide), trivial⟩, nxG_n (by rcases h with h | h | h | h | h <;> rw [h] <;> decide) _, JTi.nj (fun y hy => ?_)⟩
  have e : y = r := by simpa using hy
  rw [e]
  unfold nJ
  rcases h with h | h | h | h | h <;> rw [h] <;> decide
theorem gdGS.cons {i0 : Nat} {r : Row} {os : List Row} (h : r.1 = 1 ∨ r.1 = 2 ∨ r.1 = 19 ∨ r.1 = 26 ∨ r.1 = 27) (ho : gdGS (i0 + 1) os) : gdGS i0 (r :: os) := gdGS.app (a := [r]) (gdGS.one h) ho
theorem gdGS.snoc {i0 : Nat} {r : Row} {os : List Row} (ho : gdGS i0 os) (h : r.1 = 1 ∨ r.1 = 2 ∨ r.1 = 19 ∨ r.1 = 26 ∨ r.1 = 27) : gdGS i0 (os ++ [r]) := ho.app (gdGS.one h)
theorem scE_isE {H P Q : Nat} : ∀ (l : List Row) (x : HS), scE H P Q l x → ∀ r, r ∈ l → isE r
  | [], _, _, r, h => by cases h
  | a :: l, x, hs, r, h => by
    rcases List.mem_cons.mp h with e | e
    · rw [e]; exact hs.1.1
    · exact scE_isE l _ hs.2 r e
theorem isE.nj {r : Row} (h : isE r) : nJ r := by
  unfold nJ
  rcases h with h | h | h | h | h | h | h | h | h | h | h | h | h <;> rw [h] <;> decide
theorem prV_nj {o c kq : Nat} {y : PZ} (ho : o ≤ 12) (h : prV T M o c kq = .inr y) : ∀ r, r ∈ y.2.2.2.1 → nJ r := fun r hr => (scE_isE _ _ ((prV_gd ho h).2 0 [] 0 60 20 120 (by omega) (by show 0 + 12 ≤ 20; omega) (by omega)).1 r hr).nj
theorem nj_app {a b : List Row} (ha : ∀ r, r ∈ a → nJ r) (hb : ∀ r, r ∈ b → nJ r) : ∀ r, r ∈ a ++ b → nJ r := fun r hr => (List.mem_append.mp hr).elim (ha r) (hb r)
theorem nj_one {r : Row} (h : nJ r) : ∀ y, y ∈ [r] → nJ y := fun y hy => by
  have e : y = r := by simpa using hy
  rw [e]
  exact h
/-- an E and an order that takes its value -/
theorem gdGS.pop {i0 : Nat} {os : List Row} {r : Row} (hg : gdG os) (hn : ∀ y, y ∈ os → nJ y) (h : r.1 = 20 ∨ r.1 = 24 ∨ r.1 = 25 ∨ (r.1 = 28 ∧ r.2.2.1 = 1)) : gdGS i0 (os ++ [r]) := by
  obtain ⟨a1, a2⟩ := hg []
  refine ⟨by rw [sdG_app, a2]; exact ⟨a1, okG.o (by rcases h with h | h | h | h; exact Or.inl h; exact Or.inr (Or.inr (Or.inl h)); exact Or.inr (Or.inr (Or.inr (Or.inl h))); exact Or.inr (Or.inr (Or.inr (Or.inr h)))), trivial⟩, ?_, JTi.nj (nj_app hn (nj_one ?_))⟩
  · rw [fdG_app, a2]
    exact nxG_o (by rcases h with h | h | h | h; exact Or.inl h; exact Or.inr (Or.inr (Or.inl h)); exact Or.inr (Or.inr (Or.inr (Or.inl h))); exact Or.inr (Or.inr (Or.inr (Or.inr h.1)))) _
  · unfold nJ
    rcases h with h | h | h | h
    · rw [h]; decide
    · rw [h]; decide
    · rw [h]; decide
    · rw [h.1]; decide
theorem pDecl_gg {o c td kq i0 : Nat} {y : PB} (ho : o ≤ 12) (h : pDecl T M o c td kq = .inr y) : gdGS i0 y.2.2.2.1 := by
  unfold pDecl at h
  cases hp : pType T c with
  | inl x => rw [hp] at h; cases h
  | inr c1 =>
    rw [hp] at h
    dsimp only at h
    by_cases h3 : (T c1).1 = 3
    · rw [if_pos h3] at h
      by_cases t16 : td = 16
      · rw [if_pos t16] at h; cases h
      rw [if_neg t16] at h
      by_cases h61 : (T (c1 + 1)).1 = 61
      · rw [if_pos h61] at h
        cases hv : prV T M o (c1 + 2) (kq + (if (T c).1 = 10 then 0 else 1)) with
        | inl x => rw [hv] at h; cases h
        | inr v =>
          rw [hv] at h
          dsimp only at h
          by_cases h59 : (T v.1).1 = 59
          · rw [if_pos h59] at h
            cases h
            have key : ∀ (r19 r20 : Row), r19.1 = 19 → r20.1 = 20 → gdGS i0 (oLine T c :: r19 :: (v.2.2.2.1 ++ [r20])) := fun r19 r20 e1 e2 => gdGS.cons (Or.inl rfl) (gdGS.cons (Or.inr (Or.inr (Or.inl e1))) (gdGS.pop (prV_gg hv) (prV_nj ho hv) (Or.inl e2)))
            by_cases g10 : (T c).1 = 10
            · simp only [if_pos g10]
              exact key _ _ rfl rfl
            · simp only [if_neg g10]
              exact key _ _ rfl rfl
          · rw [if_neg h59] at h; cases h
      · rw [if_neg h61] at h; cases h
    · rw [if_neg h3] at h; cases h
/-- a test and a BLOCK -/
theorem gdGS.grd {i0 : Nat} {v w : List Row} {l r : Row} (hl : l.1 = 1 ∨ l.1 = 2) (hg : gdG v) (hn : ∀ y, y ∈ v → nJ y) (hr : r.1 = 21) (hw : gdGS (i0 + 1 + v.length + 1) w) (ha : r.2.2.1 = nI (i0 + (1 + v.length + 1 + w.length))) : gdGS i0 (l :: (v ++ r :: w)) := by
  obtain ⟨a1, a2⟩ := hg []
  obtain ⟨w1, w2, w3⟩ := hw
  have e : l :: (v ++ r :: w) = ([l] ++ v ++ [r]) ++ (w ++ []) := by simp
  have p1 : sdG ([l] ++ v ++ [r]) [] ∧ fdG ([l] ++ v ++ [r]) [] = [] := by
    have l1 : fdG [l] [] = [] := nxG_n (by rcases hl with h | h <;> rw [h] <;> decide) _
    have f : fdG ([l] ++ v) [] = [(0, 0, 0)] := by rw [fdG_app, l1, a2]
    rw [sdG_app, sdG_app, fdG_app ([l] ++ v), f, l1]
    exact ⟨⟨⟨⟨okG.n (by rcases hl with h | h <;> rw [h] <;> decide), trivial⟩, a1⟩, okG.o (Or.inr (Or.inl hr)), trivial⟩, nxG_o (Or.inr (Or.inl hr)) _⟩
  have pl : ([l] ++ v ++ [r]).length = 1 + v.length + 1 := by simp; omega
  have full : sdG (([l] ++ v ++ [r]) ++ (w ++ [])) [] ∧ fdG (([l] ++ v ++ [r]) ++ (w ++ [])) [] = [] := by
    rw [List.append_nil, sdG_app, fdG_app ([l] ++ v ++ [r]) w, p1.2]
    exact ⟨⟨p1.1, w1⟩, w2⟩
  rw [e]
  refine ⟨full.1, full.2, JTi.app (JTi.app (JTi.nj (nj_app (nj_one ?_) hn)) (JTi.one (fun _ => ?_) (fun h => absurd (hr.symm.trans h) (by decide)))) ?_⟩
  · unfold nJ
    rcases hl with h | h <;> rw [h] <;> decide
  · refine ⟨1 + v.length + 1 + w.length, ?_, ?_, ha, ?_⟩
    · simp; omega
    · rw [List.append_nil, List.length_append, pl]; exact Nat.le_refl _
    · have : (([l] ++ v ++ [r]) ++ (w ++ [])).length = 1 + v.length + 1 + w.length := by rw [List.append_nil, List.length_append, pl]
      rw [← this, List.take_length]
      exact full.2
  · rw [Nat.zero_add]
    have := JTi.sub (i0 := i0) (a := [l] ++ v ++ [r]) (os := w) (c := []) (by rw [pl, ← Nat.add_assoc, ← Nat.add_assoc]; exact w3) p1.2
    exact JTi.app this (JTi.nj (fun y hy => by cases hy))
end MJB21
end
section
/-! ===== the orders' brackets: every STATEMENT and BLOCK ===== -/
section MJB22
variable {T : TT} {M : Nat}
theorem gdGS.grd2 {i0 : Nat} {p v w u : List Row} {r rj : Row} (hp : sdG p [] ∧ fdG p [] = [] ∧ ∀ y, y ∈ p → nJ y) (hg : gdG v) (hn : ∀ y, y ∈ v → nJ y) (hr : r.1 = 21) (hj : (rj.1 = 22 ∧ rj.2.2.1 = nI (i0 + (p.length + v.length + 1 + w.length + 1 + u.length))) ∨ (rj.1 = 23 ∧ ∃ x r', x < p.length ∧ p[x]? = some r' ∧ r'.1 = 2 ∧ rj.2.2.1 = nI (i0 + x))) (hw : gdGS (i0 + (p.length + v.length + 1)) w) (hu : gdGS (i0 + (p.length + v.length + 1 + w.length + 1)) u) (ha : r.2.2.1 = nI (i0 + (p.length + v.length + 1 + w.length + 1))) : gdGS i0 ((p ++ v ++ [r]) ++ (w ++ ([rj] ++ u))) := by
  obtain ⟨p1, p2, p3⟩ := hp
  obtain ⟨a1, a2⟩ := hg []
  obtain ⟨w1, w2, w3⟩ := hw
  obtain ⟨u1, u2, u3⟩ := hu
  have hj' : rj.1 = 22 ∨ rj.1 = 23 := hj.elim (fun h => Or.inl h.1) (fun h => Or.inr h.1)
  obtain ⟨A, hA⟩ : ∃ A, A = p ++ v ++ [r] := ⟨_, rfl⟩
  have Al : A.length = p.length + v.length + 1 := by rw [hA, List.length_append, List.length_append, List.length_singleton]
  have A1 : sdG A [] ∧ fdG A [] = [] := by
    have f : fdG (p ++ v) [] = [(0, 0, 0)] := by rw [fdG_app, p2, a2]
    rw [hA, sdG_app, sdG_app, fdG_app (p ++ v), f, p2]
    exact ⟨⟨⟨p1, a1⟩, okG.o (Or.inr (Or.inl hr)), trivial⟩, nxG_o (Or.inr (Or.inl hr)) _⟩
  have j1 : okG rj [] := okG.n (by rcases hj' with h | h <;> rw [h] <;> decide)
  have j2 : nxG rj [] = [] := nxG_n (by rcases hj' with h | h <;> rw [h] <;> decide) _
  obtain ⟨B, hB⟩ : ∃ B, B = A ++ w ++ [rj] := ⟨_, rfl⟩
  have Bl : B.length = p.length + v.length + 1 + w.length + 1 := by rw [hB, List.length_append, List.length_append, List.length_singleton, Al]
  have B1 : sdG B [] ∧ fdG B [] = [] := by
    have f : fdG (A ++ w) [] = [] := by rw [fdG_app, A1.2, w2]
    rw [hB, sdG_app, sdG_app, fdG_app (A ++ w), f, A1.2]
    exact ⟨⟨⟨A1.1, w1⟩, j1, trivial⟩, j2⟩
  rw [← hA]
  have big : A ++ (w ++ ([rj] ++ u)) = B ++ u := by rw [hB, List.append_assoc, List.append_assoc]
  have full : sdG (B ++ u) [] ∧ fdG (B ++ u) [] = [] := by
    rw [sdG_app, fdG_app, B1.2]
    exact ⟨⟨B1.1, u1⟩, u2⟩
  refine ⟨by rw [big]; exact full.1, by rw [big]; exact full.2, ?_⟩
  have JA : JTi i0 (A ++ (w ++ ([rj] ++ u))) 0 A := by
    rw [hA]
    refine JTi.app (JTi.nj (nj_app p3 hn)) (JTi.one (fun _ => ?_) (fun h => absurd (hr.symm.trans h) (by decide)))
    rw [← hA, big]
    refine ⟨B.length, ?_, by rw [List.length_append]; omega, by rw [ha, Bl], ?_⟩
    · rw [List.length_append]; omega
    · have := tk_add B u 0
      rw [Nat.add_zero, List.take_zero, List.append_nil] at this
      rw [this]
      exact B1.2
  have JW : JTi i0 (A ++ (w ++ ([rj] ++ u))) A.length w := JTi.sub (by rw [Al]; exact w3) A1.2
  have JJ : JTi i0 (A ++ (w ++ ([rj] ++ u))) (A.length + w.length) [rj] := by
    refine JTi.one (fun h => ?_) (fun h => ?_)
    · rcases hj with ⟨h1, h2⟩ | ⟨h1, _⟩
      · refine ⟨(B ++ u).length, ?_, by rw [big]; exact Nat.le_refl _, by rw [h2, List.length_append, Bl], ?_⟩
        · rw [List.length_append, Bl, Al]; omega
        · rw [big, List.take_length]; exact full.2
      · rcases h with h | h <;> exact absurd (h1.symm.trans h) (by decide)
    · rcases hj with ⟨h1, h2⟩ | ⟨h1, x, r', x1, x2, x3, x4⟩
      · exact absurd (h1.symm.trans h) (by decide)
      · refine ⟨x, r', by rw [Al]; omega, ?_, x3, x4⟩
        rw [hA, List.append_assoc, List.append_assoc, List.getElem?_append_left x1]
        exact x2
  have JU : JTi i0 (A ++ (w ++ ([rj] ++ u))) (A.length + w.length + 1) u := by
    rw [big]
    have := JTi.sub (i0 := i0) (a := B) (os := u) (c := []) (by rw [Bl]; exact u3) B1.2
    rw [List.append_nil, Bl] at this
    rw [Al]
    exact this
  have e0 : ∀ n : Nat, 0 + n = n := fun n => Nat.zero_add n
  refine JTi.app JA ?_
  rw [e0]
  exact JTi.app JW (JTi.app JJ JU)
theorem pGrd_gg {bl : Nat → Nat → Nat → Nat → PY} {o c td kq i0 : Nat} {x : PZ × PB} (ho : o ≤ 12) (hr : ∀ c td kq i0 x, bl c td kq i0 = .inr x → gdGS i0 x.2.2.2.1) (h : pGrd T M bl o c td kq i0 = .inr x) : gdG x.1.2.2.2.1 ∧ (∀ y, y ∈ x.1.2.2.2.1 → nJ y) ∧ gdGS (i0 + x.1.2.2.2.1.length + 1) x.2.2.2.2.1 := by
  unfold pGrd at h
  by_cases a : (T (c + 1)).1 = 40
  · rw [if_pos a] at h
    by_cases b : o = 12
    · rw [if_pos b] at h; cases h
    rw [if_neg b] at h
    cases hv : prV T M (o + 1) (c + 2) kq with
    | inl e => rw [hv] at h; cases h
    | inr v =>
      rw [hv] at h
      dsimp only at h
      by_cases g : (T v.1).1 = 41
      · rw [if_pos g] at h
        cases hb : bl (v.1 + 1) td (kq + v.2.2.1.length) (i0 + v.2.2.2.1.length + 1) with
        | inl e => rw [hb] at h; cases h
        | inr w =>
          rw [hb] at h
          cases h
          exact ⟨prV_gg hv, prV_nj (by omega) hv, hr _ _ _ _ _ hb⟩
      · rw [if_neg g] at h; cases h
  · rw [if_neg a] at h; cases h
theorem nj_c {r : Row} (h : r.1 = 1 ∨ r.1 = 2) : nJ r := by
  unfold nJ
  rcases h with h | h <;> rw [h] <;> decide
theorem pIf_gg {bl : Nat → Nat → Nat → Nat → PY} {o c td kq i0 : Nat} {y : PB} (ho : o ≤ 12) (hr : ∀ c td kq i0 x, bl c td kq i0 = .inr x → gdGS i0 x.2.2.2.1) (h : pIf T M bl o c td kq i0 = .inr y) : gdGS i0 y.2.2.2.1 := by
  unfold pIf at h
  cases hg : pGrd T M bl o c td kq (i0 + 1) with
  | inl e => rw [hg] at h; cases h
  | inr x =>
    rw [hg] at h
    obtain ⟨g1, g2, g3⟩ := pGrd_gg ho hr hg
    obtain ⟨v, w⟩ := x
    dsimp only at h g1 g2 g3
    by_cases e16 : (T w.1).1 = 16
    · rw [if_pos e16] at h
      cases hb : bl (w.1 + 1) w.2.1 (kq + v.2.2.1.length + w.2.2.1.length) (i0 + 3 + v.2.2.2.1.length + w.2.2.2.1.length) with
      | inl e => rw [hb] at h; cases h
      | inr u =>
        rw [hb] at h
        have u3 := hr _ _ _ _ _ hb
        cases h
        have k := gdGS.grd2 (i0 := i0) (p := [oLine T c]) (v := v.2.2.2.1) (w := w.2.2.2.1) (u := u.2.2.2.1) (r := (21, (T c).2.1, nI (i0 + 3 + v.2.2.2.1.length + w.2.2.2.1.length), 0, 0)) (rj := (22, -1, nI (i0 + 3 + v.2.2.2.1.length + w.2.2.2.1.length + u.2.2.2.1.length), 0, 0)) ⟨⟨okG.n (Or.inl rfl), trivial⟩, nxG_n (r := oLine T c) (Or.inr (Or.inr (Or.inr (Or.inr (Or.inl rfl))))) _, nj_one (nj_c (Or.inl rfl))⟩ g1 g2 rfl (Or.inl ⟨rfl, by rw [List.length_singleton]; exact congrArg nI (by omega)⟩) (by rw [List.length_singleton, show i0 + (1 + v.2.2.2.1.length + 1) = i0 + 1 + v.2.2.2.1.length + 1 by omega]; exact g3) (by rw [List.length_singleton, show i0 + (1 + v.2.2.2.1.length + 1 + w.2.2.2.1.length + 1) = i0 + 3 + v.2.2.2.1.length + w.2.2.2.1.length by omega]; exact u3) (by rw [List.length_singleton]; exact congrArg nI (by omega))
        simp only [List.append_assoc, List.cons_append, List.nil_append] at k ⊢
        exact k
    · rw [if_neg e16] at h
      cases h
      exact gdGS.grd (Or.inl rfl) g1 g2 rfl g3 (congrArg nI (by omega))
theorem pWhile_gg {bl : Nat → Nat → Nat → Nat → PY} {o c td kq i0 : Nat} {y : PB} (ho : o ≤ 12) (hr : ∀ c td kq i0 x, bl c td kq i0 = .inr x → gdGS i0 x.2.2.2.1) (h : pWhile T M bl o c td kq i0 = .inr y) : gdGS i0 y.2.2.2.1 := by
  unfold pWhile at h
  cases hg : pGrd T M bl o c td kq (i0 + 2) with
  | inl e => rw [hg] at h; cases h
  | inr x =>
    rw [hg] at h
    obtain ⟨g1, g2, g3⟩ := pGrd_gg ho hr hg
    obtain ⟨v, w⟩ := x
    dsimp only at g1 g2 g3
    cases h
    have k := gdGS.grd2 (i0 := i0) (p := [oLine T c, (2, (T c).2.1, 0, 0, 0)]) (v := v.2.2.2.1) (w := w.2.2.2.1) (u := []) (r := (21, (T c).2.1, nI (i0 + 4 + v.2.2.2.1.length + w.2.2.2.1.length), 0, 0)) (rj := (23, -1, nI (i0 + 1), 0, 0)) ⟨⟨okG.n (Or.inl rfl), okG.n (Or.inr (Or.inl rfl)), trivial⟩, rfl, fun y hy => by
      rcases List.mem_cons.mp hy with e | e
      · rw [e]; exact nj_c (Or.inl rfl)
      · exact nj_one (nj_c (Or.inr rfl)) y e⟩ g1 g2 rfl (Or.inr ⟨rfl, 1, (2, (T c).2.1, 0, 0, 0), (by show 1 < 2; omega), rfl, rfl, rfl⟩) (by rw [show [oLine T c, (2, (T c).2.1, 0, 0, 0)].length = 2 from rfl, show i0 + (2 + v.2.2.2.1.length + 1) = i0 + 2 + v.2.2.2.1.length + 1 by omega]; exact g3) gdGS.nil (by rw [show [oLine T c, (2, (T c).2.1, 0, 0, 0)].length = 2 from rfl]; exact congrArg nI (by omega))
    simp only [List.append_assoc, List.cons_append, List.nil_append, List.append_nil] at k ⊢
    exact k
theorem pGive_gg {o c td kq i0 : Nat} {w : Int32} {y : PB} (ho : o ≤ 12) (hw : w = 28 ∨ w = 24) (h : pGive T M o c td kq w = .inr y) : gdGS i0 y.2.2.2.1 := by
  unfold pGive at h
  cases hv : prV T M o (c + 1) kq with
  | inl e => rw [hv] at h; cases h
  | inr v =>
    rw [hv] at h
    dsimp only at h
    by_cases g : (T v.1).1 = 59
    · rw [if_pos g] at h
      cases h
      exact gdGS.cons (Or.inl rfl) (gdGS.pop (prV_gg hv) (prV_nj ho hv) (hw.elim (fun e => Or.inr (Or.inr (Or.inr ⟨e, rfl⟩))) (fun e => Or.inr (Or.inl e))))
    · rw [if_neg g] at h; cases h
theorem left_gg {v : PZ} (gv : gdG v.2.2.2.1) (hn : ∀ y, y ∈ v.2.2.2.1 → nJ y) (h1 : v.2.1 = 1 → v.2.2.1 = [] ∧ ∃ r : Row, v.2.2.2.1 = [r]) (h2 : sh2 v) (hs : v.2.1 = 1 ∨ v.2.1 = 2) : sdG (oLeft v.2.1 v.2.2.2.1) [] ∧ fdG (oLeft v.2.1 v.2.2.2.1) [] = [(1, if v.2.1 = 1 then 0 else 1, 0)] ∧ ∀ y, y ∈ oLeft v.2.1 v.2.2.2.1 → nJ y := by
  rcases hs with s1 | s2
  · obtain ⟨ek, r, er⟩ := h1 s1
    rw [s1, er, if_pos rfl]
    have e : oLeft 1 [r] = [(15, r.2)] := rfl
    rw [e]
    exact ⟨⟨okG.l rfl, trivial⟩, nxG_15 (r := (15, r.2)) rfl _, nj_one (by unfold nJ; show ¬ ((15 : Int32) = 21 ∨ (15 : Int32) = 22 ∨ (15 : Int32) = 23); decide)⟩
  · obtain ⟨b, r, er, e10⟩ := h2 s2
    have n1 : ¬ v.2.1 = 1 := by rw [s2]; decide
    obtain ⟨a, f⟩ := gv []
    rw [er, sdG_app] at a
    rw [er, fdG_app] at f
    have f' : fdG b [] = [(0, 0, 0)] := by
      have q : nxG r (fdG b []) = [(0, 0, 0)] := f
      rw [nxG_n (Or.inr (Or.inl e10))] at q
      exact q
    have e : oLeft v.2.1 (b ++ [r]) = b ++ [(16, r.2)] := by
      unfold oLeft oLast
      rw [if_neg n1, List.dropLast_concat, List.getLastD_concat]
    rw [if_neg n1, er, e]
    refine ⟨?_, ?_, nj_app (fun y hy => hn y (by rw [er]; exact List.mem_append_left _ hy)) (nj_one (by unfold nJ; show ¬ ((16 : Int32) = 21 ∨ (16 : Int32) = 22 ∨ (16 : Int32) = 23); decide))⟩
    · rw [sdG_app, f']
      exact ⟨a.1, okG.f rfl, trivial⟩
    · rw [fdG_app, f']
      exact nxG_16 (r := (16, r.2)) rfl [(0, 0, 0)]
theorem pUse_gg {o c td kq i0 : Nat} {y : PB} (ho : o ≤ 12) (h : pUse T M o c td kq i0 = .inr y) : gdGS i0 y.2.2.2.1 := by
  unfold pUse at h
  cases hv : prV T M o c kq with
  | inl e => rw [hv] at h; cases h
  | inr v =>
    rw [hv] at h
    dsimp only at h
    by_cases g : (T v.1).1 = 61 ∧ (v.2.1 = 1 ∨ v.2.1 = 2)
    · rw [if_pos g] at h
      cases hv2 : prV T M o (v.1 + 1) (kq + v.2.2.1.length) with
      | inl e => rw [hv2] at h; cases h
      | inr w =>
        rw [hv2] at h
        dsimp only at h
        by_cases g2 : (T w.1).1 = 59
        · rw [if_pos g2] at h
          have s1 : v.2.1 = 1 → v.2.2.1 = [] ∧ ∃ r : Row, v.2.2.2.1 = [r] := fun e => by
            obtain ⟨_, ey⟩ := prE_s1 100 0 o c kq v (by omega) hv e
            rw [ey]
            exact ⟨rfl, _, rfl⟩
          have s2 := prE_s2 100 0 o c kq v (by omega) hv
          cases h
          refine gdGS.cons (Or.inl rfl) ?_
          obtain ⟨l1, l2, l3⟩ := left_gg (prV_gg hv) (prV_nj ho hv) s1 s2 g.2
          obtain ⟨w1, w2⟩ := prV_gg hv2 [(1, if v.2.1 = 1 then 0 else 1, 0)]
          have f : fdG (oLeft v.2.1 v.2.2.2.1 ++ w.2.2.2.1) [] = [(0, 0, 0), (1, if v.2.1 = 1 then 0 else 1, 0)] := by rw [fdG_app, l2, w2]
          refine ⟨?_, ?_, JTi.nj (nj_app (nj_app l3 (prV_nj ho hv2)) (nj_one ?_))⟩
          · rw [sdG_app, sdG_app, f, l2]
            refine ⟨⟨l1, w1⟩, ?_, trivial⟩
            by_cases q : v.2.1 = 1
            · simp only [if_pos q]; exact okG.p rfl
            · simp only [if_neg q]; exact okG.q rfl
          · rw [fdG_app, f]
            by_cases q : v.2.1 = 1
            · simp only [if_pos q]; exact nxG_17 (r := (17, (T v.1).2.1, nI (i0 + v.2.2.2.1.length), (oLast v.2.2.2.1).2.1, 0)) (Or.inl rfl) [(0, 0, 0), (1, 0, 0)]
            · simp only [if_neg q]; exact nxG_17 (r := (18, (T v.1).2.1, nI (i0 + v.2.2.2.1.length), (oLast v.2.2.2.1).2.1, 0)) (Or.inr rfl) [(0, 0, 0), (1, 1, 0)]
          · unfold nJ
            by_cases q : v.2.1 = 1
            · simp only [if_pos q]; decide
            · simp only [if_neg q]; decide
        · rw [if_neg g2] at h; cases h
    · rw [if_neg g] at h
      by_cases g2 : (T v.1).1 = 59 ∧ v.2.1 = 3
      · rw [if_pos g2] at h
        cases h
        exact gdGS.cons (Or.inl rfl) (gdGS.pop (prV_gg hv) (prV_nj ho hv) (Or.inr (Or.inr (Or.inl rfl))))
      · rw [if_neg g2] at h; cases h
theorem pSeq_gg {rd : Nat → Nat → Nat → Nat → PY} {kq i0 : Nat} (hr : ∀ c td kq i0 x, rd c td kq i0 = .inr x → gdGS i0 x.2.2.2.1) : ∀ (k : Nat) (z y : PB), gdGS i0 z.2.2.2.1 → pSeq T rd kq i0 k z = .inr y → gdGS i0 y.2.2.2.1
  | 0, z, y, hz, h => by cases h; exact hz
  | k + 1, z, y, hz, h => by
    unfold pSeq at h
    by_cases g : (T z.1).1 = 125
    · rw [if_pos g] at h
      cases h
      exact hz
    · rw [if_neg g] at h
      cases hd : rd z.1 z.2.1 (kq + z.2.2.1.length) (i0 + z.2.2.2.1.length) with
      | inl e => rw [hd] at h; cases h
      | inr x =>
        rw [hd] at h
        exact pSeq_gg hr k (x.1, x.2.1, z.2.2.1 ++ x.2.2.1, z.2.2.2.1 ++ x.2.2.2.1, z.2.2.2.2 ++ x.2.2.2.2) y (hz.app (hr _ _ _ _ _ hd)) h
/-- EVERY STATEMENT, EVERY BLOCK -/
theorem prS_gg : ∀ (f tag o c td kq i0 : Nat) (y : PB), tag ≤ 1 → o ≤ 12 → prS T M f tag o c td kq i0 = .inr y → gdGS i0 y.2.2.2.1
  | 0, _, _, _, _, _, _, _, _, _, h => by cases h
  | f + 1, 0, o, c, td, kq, i0, y, _, ho, h => by
    rw [prS_0] at h
    unfold pBlk at h
    by_cases a : (T c).1 = 123
    · rw [if_pos a] at h
      by_cases b : o = 12
      · rw [if_pos b] at h; cases h
      rw [if_neg b] at h
      cases hd : pSeq T (prS T M f 1 (o + 1)) kq i0 M (c + 1, td, [], [(26, (T (c + 1)).2.1, 0, 0, 0)], []) with
      | inl e => rw [hd] at h; cases h
      | inr z =>
        rw [hd] at h
        dsimp only at h
        have hz := pSeq_gg (fun c td kq i0 x hx => prS_gg f 1 (o + 1) c td kq i0 x (by omega) (by omega) hx) _ _ _ (gdGS.one (r := (26, (T (c + 1)).2.1, 0, 0, 0)) (Or.inr (Or.inr (Or.inr (Or.inl rfl))))) hd
        by_cases g : (T z.1).1 = 125
        · rw [if_pos g] at h
          cases h
          exact hz.snoc (Or.inr (Or.inr (Or.inr (Or.inr rfl))))
        · rw [if_neg g] at h; cases h
    · rw [if_neg a] at h; cases h
  | f + 1, 1, o, c, td, kq, i0, y, _, ho, h => by
    rw [prS_1] at h
    have bl : ∀ c td kq i0 x, prS T M f 0 o c td kq i0 = .inr x → gdGS i0 x.2.2.2.1 := fun c td kq i0 x hx => prS_gg f 0 o c td kq i0 x (by omega) ho hx
    by_cases e1 : (T c).1 = 2 ∨ (T c).1 = 10
    · rw [if_pos e1] at h; exact pDecl_gg ho h
    rw [if_neg e1] at h
    by_cases e15 : (T c).1 = 15
    · rw [if_pos e15] at h; exact pIf_gg ho bl h
    rw [if_neg e15] at h
    by_cases e17 : (T c).1 = 17
    · rw [if_pos e17] at h; exact pWhile_gg ho bl h
    rw [if_neg e17] at h
    by_cases e18 : (T c).1 = 18
    · rw [if_pos e18] at h; exact pGive_gg ho (Or.inl rfl) h
    rw [if_neg e18] at h
    by_cases e19 : (T c).1 = 19
    · rw [if_pos e19] at h; exact pGive_gg ho (Or.inr rfl) h
    rw [if_neg e19] at h
    by_cases e123 : (T c).1 = 123
    · rw [if_pos e123] at h
      exact prS_gg f 0 o c td kq i0 y (by omega) ho h
    rw [if_neg e123] at h
    exact pUse_gg ho h
  | f + 1, t + 2, o, c, td, kq, i0, y, ht, _, h => by omega
end MJB22
end
section
/-! ===== a RUN's values: their CLASSES; which METHOD is done ===== -/
/-- a TYPE without OWNERS: 0 int, 1 null, a CLASS and 2 -/
def ctT (x : Nat) : Nat := match x with
  | k + 2 => cK k + 2
  | x => x
/-- the MEMBER of that NAME and sort that CLASS a tells -/
def gMs (T : TT) (L : List CD) (w : Int64) (isM : Bool) (a : Nat) : Option Nat := match omT T L a w with
  | some m => if mSM L m = isM then some m else none
  | none => none
/-- alike but for OWNERS -/
def SAM (T : TT) (L : List CD) (m o : Nat) : Prop := ctT (tyM T L m) = ctT (tyM T L o) ∧ (psM L m).length = (psM L o).length ∧ ∀ i, i < (psM L o).length → ctT (pyT T L m i) = ctT (pyT T L o i)
section MJB23
variable {T : TT} {N : Nat} {L : List CD} {c a m o p x u : Nat} {w : Int64} {isM : Bool}
theorem ct_sty (hn : HN T N L) (hx : vT L x) : ctT (sty (nmL L) x u) = ctT x := by
  rcases hx with e | ⟨k, e, hk⟩
  · rw [e]; rfl
  · rw [e]
    show cK (stand (nmL L) k u) + 2 = cK k + 2
    rw [stand_c hn hk]
theorem tyM_v (hn : HN T N L) (hh : hmM L m < L.length) : vT L (tyM T L m) := ty_v hn (fun c hc => by cases hc; exact hh)
theorem anc_first {up : Nat → Option Nat} {g : Nat → Option Nat} : ∀ (f x m : Nat), (anc up f (some x)).findSome? g = some m → ∃ j a, j < f ∧ upI up j x = some a ∧ g a = some m ∧ ∀ i, i < j → ∀ y, upI up i x = some y → g y = none
  | 0, x, m, h => by cases h
  | f + 1, x, m, h => by
    have h' : (x :: anc up f (up x)).findSome? g = some m := h
    rw [List.findSome?_cons] at h'
    cases hg : g x with
    | some o =>
      rw [hg] at h'
      have e : o = m := by simpa using h'
      exact ⟨0, x, by omega, rfl, by rw [hg, e], fun i hi => by omega⟩
    | none =>
      rw [hg] at h'
      cases hu : up x with
      | none =>
        rw [hu] at h'
        cases f <;> cases h'
      | some b =>
        rw [hu] at h'
        obtain ⟨j, a, h1, h2, h3, h4⟩ := anc_first f b m h'
        have st : ∀ i, upI up (i + 1) x = upI up i b := fun i => by
          show (match up x with
            | none => none
            | some b => upI up i b) = _
          rw [hu]
        refine ⟨j + 1, a, by omega, by rw [st]; exact h2, h3, fun i hi y hy => ?_⟩
        cases i with
        | zero => cases hy; exact hg
        | succ i =>
          rw [st] at hy
          exact h4 i (by omega) y hy
theorem mem_first (h : memT T L c w isM = some m) : ∃ j a, upI (upT T L) j c = some a ∧ gMs T L w isM a = some m ∧ ∀ i, i < j → ∀ y, upI (upT T L) i c = some y → gMs T L w isM y = none := by
  obtain ⟨j, a, _, h2, h3, h4⟩ := anc_first 16 c m (g := gMs T L w isM) h
  exact ⟨j, a, h2, h3, h4⟩
theorem mem_of (Ac : ACY T N L) (hc : c < L.length) {j : Nat} (h2 : upI (upT T L) j c = some a) (h3 : gMs T L w isM a = some m) (h4 : ∀ i, i < j → ∀ y, upI (upT T L) i c = some y → gMs T L w isM y = none) : memT T L c w isM = some m := by
  have := anc_find (up := upT T L) (g := gMs T L w isM) j 16 c a h4 h2 (up_end Ac hc h2) (Or.inl (by rw [h3]; intro e; cases e))
  rw [h3] at this
  exact this
theorem om_in (hc : a < L.length) (h : omT T L a w = some o) : o < nMem L ∧ hmM L o = a ∧ nkM T L o = w := by
  obtain ⟨x1, x2, x3⟩ := om_lt h
  have e := hm_at (L := L) hc (show o - fmL L a < mcL L a by omega)
  rw [show fmL L a + (o - fmL L a) = o by omega] at e
  refine ⟨?_, e, x3⟩
  obtain ⟨D, hD⟩ : ∃ D, L[a]? = some D := ⟨_, List.getElem?_eq_getElem hc⟩
  have t := nMem_take hD
  have e2 : mcL L a = D.2.length := by unfold mcL; rw [hD]
  have e3 : fmL L a = nMem (L.take a) := rfl
  omega
theorem gMs_in (hc : a < L.length) (h : gMs T L w isM a = some m) : m < nMem L ∧ hmM L m = a ∧ nkM T L m = w ∧ mSM L m = isM ∧ omT T L a w = some m := by
  unfold gMs at h
  cases ho : omT T L a w with
  | none => rw [ho] at h; cases h
  | some o =>
    rw [ho] at h
    dsimp only at h
    by_cases g : mSM L o = isM
    · rw [if_pos g] at h
      cases h
      obtain ⟨a1, a2, a3⟩ := om_in hc ho
      exact ⟨a1, a2, a3, g, rfl⟩
    · rw [if_neg g] at h; cases h
theorem mem_in (Ac : ACY T N L) (hc : c < L.length) (h : memT T L c w isM = some m) : m < nMem L ∧ hmM L m < L.length ∧ nkM T L m = w ∧ mSM L m = isM ∧ (vwT (nmL L) (abT T L) c (hmM L m)).isSome = true := by
  obtain ⟨j, a, h2, h3, _⟩ := mem_first h
  have al := up_in Ac hc h2
  obtain ⟨g1, g2, g3, g4, _⟩ := gMs_in al h3
  exact ⟨g1, by rw [g2]; exact al, g3, g4, by rw [g2]; exact (vw_iff Ac hc).mpr ⟨j, h2⟩⟩
theorem up_S {j : Nat} {b : Nat} (hu : upT T L c = some b) : upI (upT T L) (j + 1) c = upI (upT T L) j b := by
  show (match upT T L c with
    | none => none
    | some b => upI (upT T L) j b) = _
  rw [hu]
/-- the METHOD that is done is like the one that was judged -/
theorem dyn_m (Ac : ACY T N L) (ok : ∀ m, m < nMem L → OKe T L m) : ∀ (i c : Nat), c < L.length → upI (upT T L) i c = some a → memT T L a w true = some p → ∃ d, memT T L c w true = some d ∧ SAM T L d p
  | 0, c, hc, hi, h => by
    cases hi
    exact ⟨p, h, rfl, rfl, fun _ _ => rfl⟩
  | i + 1, c, hc, hi, h => by
    cases hu : upT T L c with
    | none =>
      have : (match upT T L c with
        | none => none
        | some b => upI (upT T L) i b) = some a := hi
      rw [hu] at this
      cases this
    | some c1 =>
      rw [up_S hu] at hi
      have c1l : c1 < L.length := up_in Ac hc (j := 1) (by rw [up_S hu]; rfl)
      obtain ⟨d, d1, s1, s2, s3⟩ := dyn_m Ac ok i c1 c1l hi h
      obtain ⟨j, a1, j2, j3, j4⟩ := mem_first d1
      have al := up_in Ac c1l j2
      obtain ⟨g1, g2, g3, g4, g5⟩ := gMs_in al j3
      cases ho : omT T L c w with
      | none =>
        refine ⟨d, mem_of Ac hc (j := j + 1) (by rw [up_S hu]; exact j2) j3 (fun i hi y hy => ?_), s1, s2, s3⟩
        cases i with
        | zero => cases hy; unfold gMs; rw [ho]
        | succ i => rw [up_S hu] at hy; exact j4 i (by omega) y hy
      | some m =>
        obtain ⟨m1, m2, m3⟩ := om_in hc ho
        obtain ⟨k1, k2⟩ := ok m m1
        have anc1 : ∀ (i : Nat) (y : Nat), upI (upT T L) i c1 = some y → y ∈ ancM T L m := by
          intro i y hy
          have e16 := up_end Ac c1l hy
          have e : ancM T L m = anc (upT T L) 16 (some c1) := by unfold ancM; rw [m2, hu]
          rw [e]
          have gen : ∀ (f i x : Nat), i < f → upI (upT T L) i x = some y → y ∈ anc (upT T L) f (some x) := by
            intro f
            induction f with
            | zero => intro i x h; omega
            | succ f ih =>
              intro i x hf hx
              show y ∈ x :: anc (upT T L) f (upT T L x)
              cases i with
              | zero => cases hx; exact List.mem_cons_self
              | succ i =>
                cases hv : upT T L x with
                | none =>
                  have : (match upT T L x with
                    | none => none
                    | some b => upI (upT T L) i b) = some y := hx
                  rw [hv] at this
                  cases this
                | some b =>
                  rw [up_S hv] at hx
                  exact List.mem_cons_of_mem _ (ih i b (by omega) hx)
          exact gen 16 i c1 e16 hy
        have sm : mSM L m = true := (k1 a1 (anc1 j a1 j2) d (by rw [m3]; exact g5)).1
        have near : nearM T L m = some d := by
          have e : ancM T L m = anc (upT T L) 16 (some c1) := by unfold ancM; rw [m2, hu]
          unfold nearM
          rw [e, m3]
          have := anc_find (up := upT T L) (g := fun a => omT T L a w) j 16 c1 a1 (fun i hi y hy => ?_) j2 (up_end Ac c1l j2) (Or.inl (by rw [g5]; intro e; cases e))
          · rw [g5] at this
            exact this
          · have q := j4 i hi y hy
            unfold gMs at q
            cases hy2 : omT T L y w with
            | none => rfl
            | some z =>
              rw [hy2] at q
              dsimp only at q
              have := (k1 y (anc1 i y hy) z (by rw [m3]; exact hy2)).2
              rw [if_pos this] at q
              cases q
        have vw : ∃ v, vwT (nmL L) (abT T L) (hmM L m) (hmM L d) = some v := by
          have := (vw_iff Ac hc (a := a1)).mpr ⟨j + 1, by rw [up_S hu]; exact j2⟩
          rw [m2, g2]
          exact Option.isSome_iff_exists.mp this
        obtain ⟨v, hv⟩ := vw
        obtain ⟨q1, q2, q3⟩ := k2 d near v hv
        have dl : hmM L d < L.length := by rw [g2]; exact al
        refine ⟨m, mem_of Ac hc (j := 0) rfl (by unfold gMs; rw [ho]; exact if_pos sm) (fun i hi => by omega), ?_, by rw [q2, s2], fun i hi => ?_⟩
        · rw [q1, ct_sty Ac.1 (tyM_v Ac.1 dl)]; exact s1
        · rw [q3 i (by omega), ct_sty Ac.1 (py_v Ac.1 dl)]; exact s3 i hi
end MJB23
end
section
/-! ===== jrow, order by order ===== -/
section MJB24
variable {E : EV} {r : Row} {j : JS}
theorem jr_3 (h : r.1 = 3) : jrow E r j = some (jpush j 0 false (0 :: jRS j), [(0, r.2.2.1, -1)]) := by unfold jrow; rw [h, if_pos rfl] <;> rfl
theorem jr_4 (h : r.1 = 4) : jrow E r j = some (jpush j 1 false (1 :: jRS j), [(0, 0, -1)]) := by unfold jrow; rw [h, if_neg (by decide), if_pos rfl] <;> rfl
theorem jr_5 (h : r.1 = 5) : jrow E r j = (match E.2.2.2.2.1 with
    | none => none
    | some c => some (jpush j (own (nmL E.2.1) c + 2) true ((own (nmL E.2.1) c + 2) :: jRS j), [(3, 0, -1)])) := by unfold jrow; rw [h, if_neg (by decide), if_neg (by decide), if_pos rfl] <;> rfl
theorem jr_6 (h : r.1 = 6) : jrow E r j = (match vsK j.2.2.1 r.2.2.2.2 with
    | none => none
    | some e => some (jpush j e.2.1 false (e.2.1 :: jRS j), [(1, nI e.2.2.1, -1)])) := by unfold jrow; rw [h, if_neg (by decide), if_neg (by decide), if_neg (by decide), if_pos rfl] <;> rfl
theorem jr_15 (h : r.1 = 15) : jrow E r j = (match vsK j.2.2.1 r.2.2.2.2 with
    | none => none
    | some e => some (((e.2.1, false) :: j.1, j.2.1, j.2.2.1, j.2.2.2.1, j.2.2.2.2.1, j.2.2.2.2.2.1, e.2.2.1, jRS j), [])) := by unfold jrow; rw [h, if_neg (by decide), if_neg (by decide), if_neg (by decide), if_neg (by decide), if_pos rfl] <;> rfl
theorem jr_7 (h : r.1 = 7) : jrow E r j = (match kdE E r.2.2.1 with
    | none => none
    | some k => some (jpush j (k + 2) false ((k + 2) :: jRS j), [(14, nI k, r.2.1)])) := by unfold jrow; rw [h, if_neg (by decide), if_neg (by decide), if_neg (by decide), if_neg (by decide), if_neg (by decide), if_pos rfl] <;> rfl
theorem jr_30 (h : r.1 = 30) : jrow E r j = (match j.1 with
    | t :: st => some (jst j ((t.1, false) :: st) (jRS j), [])
    | [] => none) := by unfold jrow; rw [h, if_neg (by decide), if_neg (by decide), if_neg (by decide), if_neg (by decide), if_neg (by decide), if_neg (by decide), if_pos rfl] <;> rfl
theorem jr_8 (h : r.1 = 8) : jrow E r j = (match j.1 with
    | t :: _ => if t.1 = 0 then some (j, [(16, 0, r.2.1)]) else none
    | [] => none) := by unfold jrow; rw [h, if_neg (by decide), if_neg (by decide), if_neg (by decide), if_neg (by decide), if_neg (by decide), if_neg (by decide), if_neg (by decide), if_pos rfl] <;> rfl
theorem jr_9 (h : r.1 = 9) : jrow E r j = (match j.1 with
    | t2 :: t1 :: st => if (if r.2.2.1 = 257 ∨ r.2.2.1 = 258 then (t1.1 = 0 ↔ t2.1 = 0) else (t1.1 = 0 ∧ t2.1 = 0)) then some (jst j ((0, false) :: st) (0 :: (jRS j).drop 2), [(opr r.2.2.1, 0, r.2.1)]) else none
    | _ => none) := by unfold jrow; rw [h, if_neg (by decide), if_neg (by decide), if_neg (by decide), if_neg (by decide), if_neg (by decide), if_neg (by decide), if_neg (by decide), if_neg (by decide), if_pos rfl] <;> rfl
theorem jr_10 (h : r.1 = 10) : jrow E r j = (match j.1 with
    | t :: st => (match prtE E t r.2.2.2.2 false with
      | none => none
      | some p => some (jst j ((sty (nmL E.2.1) (tyM E.1 E.2.1 p.1) p.2, false) :: st) (sty (nmL E.2.1) (tyM E.1 E.2.1 p.1) p.2 :: (jRS j).drop 1), [(12, nI (numM E.1 E.2.1 p.1), r.2.1)]))
    | [] => none) := by unfold jrow; rw [h, if_neg (by decide), if_neg (by decide), if_neg (by decide), if_neg (by decide), if_neg (by decide), if_neg (by decide), if_neg (by decide), if_neg (by decide), if_neg (by decide), if_pos rfl] <;> rfl
theorem jr_16 (h : r.1 = 16) : jrow E r j = (match j.1 with
    | t :: st => (match prtE E t r.2.2.2.2 false with
      | none => none
      | some p => some (((sty (nmL E.2.1) (tyM E.1 E.2.1 p.1) p.2, false) :: st, j.2.1, j.2.2.1, j.2.2.2.1, j.2.2.2.2.1, j.2.2.2.2.2.1, numM E.1 E.2.1 p.1, jRS j), []))
    | [] => none) := by unfold jrow; rw [h, if_neg (by decide), if_neg (by decide), if_neg (by decide), if_neg (by decide), if_neg (by decide), if_neg (by decide), if_neg (by decide), if_neg (by decide), if_neg (by decide), if_neg (by decide), if_pos rfl] <;> rfl
theorem jr_11 (h : r.1 = 11) : jrow E r j = (match j.1 with
    | t :: st => (match prtE E t r.2.2.2.2 true with
      | none => none
      | some p => if nI (psM E.2.1 p.1).length = r.2.2.2.1 then some ((st, p :: j.2.1, j.2.2), []) else none)
    | [] => none) := by unfold jrow; rw [h, if_neg (by decide), if_neg (by decide), if_neg (by decide), if_neg (by decide), if_neg (by decide), if_neg (by decide), if_neg (by decide), if_neg (by decide), if_neg (by decide), if_neg (by decide), if_neg (by decide), if_pos rfl] <;> rfl
theorem jr_12 (h : r.1 = 12) : jrow E r j = (match j.1, j.2.1 with
    | t :: st, p :: _ => if fitT E.1 E.2.1 t.1 (sty (nmL E.2.1) (pyT E.1 E.2.1 p.1 r.2.2.1.toNatClampNeg) p.2) = true then some (jst j st (jRS j), []) else none
    | _, _ => none) := by unfold jrow; rw [h, if_neg (by decide), if_neg (by decide), if_neg (by decide), if_neg (by decide), if_neg (by decide), if_neg (by decide), if_neg (by decide), if_neg (by decide), if_neg (by decide), if_neg (by decide), if_neg (by decide), if_neg (by decide), if_pos rfl] <;> rfl
theorem jr_13 (h : r.1 = 13) : jrow E r j = (match j.2.1 with
    | p :: pd => some (((sty (nmL E.2.1) (tyM E.1 E.2.1 p.1) p.2, false) :: j.1, pd, j.2.2.1, j.2.2.2.1, j.2.2.2.2.1, j.2.2.2.2.2.1, j.2.2.2.2.2.2.1, sty (nmL E.2.1) (tyM E.1 E.2.1 p.1) p.2 :: (jRS j).drop ((psM E.2.1 p.1).length + 1)), [(13, nI p.1, r.2.1)])
    | [] => none) := by unfold jrow; rw [h, if_neg (by decide), if_neg (by decide), if_neg (by decide), if_neg (by decide), if_neg (by decide), if_neg (by decide), if_neg (by decide), if_neg (by decide), if_neg (by decide), if_neg (by decide), if_neg (by decide), if_neg (by decide), if_neg (by decide), if_pos rfl] <;> rfl
theorem jr_14 (h : r.1 = 14) : jrow E r j = (match j.1 with
    | t :: st => (match kdE E r.2.2.1 with
      | none => none
      | some k => if t.1 = 0 then none else some (jst j ((k + 2, false) :: st) ((k + 2) :: (jRS j).drop 1), [(15, nI k, r.2.1)]))
    | [] => none) := by unfold jrow; rw [h, if_neg (by decide), if_neg (by decide), if_neg (by decide), if_neg (by decide), if_neg (by decide), if_neg (by decide), if_neg (by decide), if_neg (by decide), if_neg (by decide), if_neg (by decide), if_neg (by decide), if_neg (by decide), if_neg (by decide), if_neg (by decide), if_pos rfl] <;> rfl
theorem jr_17 (h : r.1 = 17) : jrow E r j = (match j.1 with
    | t2 :: t1 :: st => if fitT E.1 E.2.1 t2.1 t1.1 = true then some (jst j st ((jRS j).drop 1), [(2, nI j.2.2.2.2.2.2.1, -1)]) else none
    | _ => none) := by unfold jrow; rw [h, if_neg (by decide), if_neg (by decide), if_neg (by decide), if_neg (by decide), if_neg (by decide), if_neg (by decide), if_neg (by decide), if_neg (by decide), if_neg (by decide), if_neg (by decide), if_neg (by decide), if_neg (by decide), if_neg (by decide), if_neg (by decide), if_neg (by decide), if_pos rfl] <;> rfl
theorem jr_18 (h : r.1 = 18) : jrow E r j = (match j.1 with
    | t2 :: t1 :: st => if fitT E.1 E.2.1 t2.1 t1.1 = true then some (jst j st ((jRS j).drop 2), [(4, nI j.2.2.2.2.2.2.1, r.2.2.2.1)]) else none
    | _ => none) := by unfold jrow; rw [h, if_neg (by decide), if_neg (by decide), if_neg (by decide), if_neg (by decide), if_neg (by decide), if_neg (by decide), if_neg (by decide), if_neg (by decide), if_neg (by decide), if_neg (by decide), if_neg (by decide), if_neg (by decide), if_neg (by decide), if_neg (by decide), if_neg (by decide), if_neg (by decide), if_pos rfl] <;> rfl
theorem jr_19 (h : r.1 = 19) : jrow E r j = (match tyE E r.2.2.1 with
    | none => none
    | some t => if vsK j.2.2.1 r.2.2.2.2 = none then some ((j.1, j.2.1, j.2.2.1, j.2.2.2.1, j.2.2.2.2.1, (r.2.2.2.2, t), j.2.2.2.2.2.2), []) else none) := by unfold jrow; rw [h, if_neg (by decide), if_neg (by decide), if_neg (by decide), if_neg (by decide), if_neg (by decide), if_neg (by decide), if_neg (by decide), if_neg (by decide), if_neg (by decide), if_neg (by decide), if_neg (by decide), if_neg (by decide), if_neg (by decide), if_neg (by decide), if_neg (by decide), if_neg (by decide), if_neg (by decide), if_pos rfl] <;> rfl
theorem jr_20 (h : r.1 = 20) : jrow E r j = (match j.1 with
    | t :: st => if fitT E.1 E.2.1 t.1 j.2.2.2.2.2.1.2 = true then some ((st, j.2.1, j.2.2.1 ++ [(j.2.2.2.2.2.1.1, j.2.2.2.2.2.1.2, j.2.2.2.1, j.2.2.2.2.1)], j.2.2.2.1 + 1, j.2.2.2.2.1, j.2.2.2.2.2.1, j.2.2.2.2.2.2.1, (jRS j).drop 1), [(2, nI j.2.2.2.1, -1)]) else none
    | [] => none) := by unfold jrow; rw [h, if_neg (by decide), if_neg (by decide), if_neg (by decide), if_neg (by decide), if_neg (by decide), if_neg (by decide), if_neg (by decide), if_neg (by decide), if_neg (by decide), if_neg (by decide), if_neg (by decide), if_neg (by decide), if_neg (by decide), if_neg (by decide), if_neg (by decide), if_neg (by decide), if_neg (by decide), if_neg (by decide), if_pos rfl] <;> rfl
theorem jr_21 (h : r.1 = 21) : jrow E r j = (match j.1 with
    | t :: st => if t.1 = 0 then some (jst j st ((jRS j).drop 1), [(7, nI (E.2.2.2.2.2.2 r.2.2.1.toNatClampNeg), -1)]) else none
    | [] => none) := by unfold jrow; rw [h, if_neg (by decide), if_neg (by decide), if_neg (by decide), if_neg (by decide), if_neg (by decide), if_neg (by decide), if_neg (by decide), if_neg (by decide), if_neg (by decide), if_neg (by decide), if_neg (by decide), if_neg (by decide), if_neg (by decide), if_neg (by decide), if_neg (by decide), if_neg (by decide), if_neg (by decide), if_neg (by decide), if_neg (by decide), if_pos rfl] <;> rfl
theorem jr_24 (h : r.1 = 24) : jrow E r j = (match j.1 with
    | t :: st => if t.1 = 0 then some (jst j st ((jRS j).drop 1), [(8, 0, -1)]) else none
    | [] => none) := by unfold jrow; rw [h, if_neg (by decide), if_neg (by decide), if_neg (by decide), if_neg (by decide), if_neg (by decide), if_neg (by decide), if_neg (by decide), if_neg (by decide), if_neg (by decide), if_neg (by decide), if_neg (by decide), if_neg (by decide), if_neg (by decide), if_neg (by decide), if_neg (by decide), if_neg (by decide), if_neg (by decide), if_neg (by decide), if_neg (by decide), if_neg (by decide), if_pos rfl] <;> rfl
theorem jr_28 (h : r.1 = 28) : jrow E r j = (match j.1 with
    | t :: st => if fitT E.1 E.2.1 t.1 E.2.2.2.2.2.1 = true then some (jst j st ((jRS j).drop 1), [(9, 0, -1)]) else none
    | [] => none) := by unfold jrow; rw [h, if_neg (by decide), if_neg (by decide), if_neg (by decide), if_neg (by decide), if_neg (by decide), if_neg (by decide), if_neg (by decide), if_neg (by decide), if_neg (by decide), if_neg (by decide), if_neg (by decide), if_neg (by decide), if_neg (by decide), if_neg (by decide), if_neg (by decide), if_neg (by decide), if_neg (by decide), if_neg (by decide), if_neg (by decide), if_neg (by decide), if_neg (by decide), if_pos rfl] <;> rfl
theorem jr_25 (h : r.1 = 25) : jrow E r j = (match j.1 with
    | _ :: st => some (jst j st ((jRS j).drop 1), [(5, 0, -1)])
    | [] => none) := by unfold jrow; rw [h, if_neg (by decide), if_neg (by decide), if_neg (by decide), if_neg (by decide), if_neg (by decide), if_neg (by decide), if_neg (by decide), if_neg (by decide), if_neg (by decide), if_neg (by decide), if_neg (by decide), if_neg (by decide), if_neg (by decide), if_neg (by decide), if_neg (by decide), if_neg (by decide), if_neg (by decide), if_neg (by decide), if_neg (by decide), if_neg (by decide), if_neg (by decide), if_neg (by decide), if_pos rfl] <;> rfl
theorem jr_26 (h : r.1 = 26) : jrow E r j = some ((j.1, j.2.1, j.2.2.1, j.2.2.2.1, j.2.2.2.2.1 + 1, j.2.2.2.2.2), []) := by unfold jrow; rw [h, if_neg (by decide), if_neg (by decide), if_neg (by decide), if_neg (by decide), if_neg (by decide), if_neg (by decide), if_neg (by decide), if_neg (by decide), if_neg (by decide), if_neg (by decide), if_neg (by decide), if_neg (by decide), if_neg (by decide), if_neg (by decide), if_neg (by decide), if_neg (by decide), if_neg (by decide), if_neg (by decide), if_neg (by decide), if_neg (by decide), if_neg (by decide), if_neg (by decide), if_neg (by decide), if_pos rfl] <;> rfl
theorem jr_27 (h : r.1 = 27) : jrow E r j = some ((j.1, j.2.1, j.2.2.1.filter (fun e => decide (¬ e.2.2.2 = j.2.2.2.2.1)), j.2.2.2.1, j.2.2.2.2.1 - 1, j.2.2.2.2.2), []) := by unfold jrow; rw [h, if_neg (by decide), if_neg (by decide), if_neg (by decide), if_neg (by decide), if_neg (by decide), if_neg (by decide), if_neg (by decide), if_neg (by decide), if_neg (by decide), if_neg (by decide), if_neg (by decide), if_neg (by decide), if_neg (by decide), if_neg (by decide), if_neg (by decide), if_neg (by decide), if_neg (by decide), if_neg (by decide), if_neg (by decide), if_neg (by decide), if_neg (by decide), if_neg (by decide), if_neg (by decide), if_neg (by decide), if_pos rfl] <;> rfl
theorem jr_1 (h : r.1 = 1) : jrow E r j = some (j, [(10, 0, r.2.1)]) := by unfold jrow; rw [h, if_neg (by decide), if_neg (by decide), if_neg (by decide), if_neg (by decide), if_neg (by decide), if_neg (by decide), if_neg (by decide), if_neg (by decide), if_neg (by decide), if_neg (by decide), if_neg (by decide), if_neg (by decide), if_neg (by decide), if_neg (by decide), if_neg (by decide), if_neg (by decide), if_neg (by decide), if_neg (by decide), if_neg (by decide), if_neg (by decide), if_neg (by decide), if_neg (by decide), if_neg (by decide), if_neg (by decide), if_neg (by decide), if_pos rfl] <;> rfl
theorem jr_2 (h : r.1 = 2) : jrow E r j = some (j, [(11, 0, -1)]) := by unfold jrow; rw [h, if_neg (by decide), if_neg (by decide), if_neg (by decide), if_neg (by decide), if_neg (by decide), if_neg (by decide), if_neg (by decide), if_neg (by decide), if_neg (by decide), if_neg (by decide), if_neg (by decide), if_neg (by decide), if_neg (by decide), if_neg (by decide), if_neg (by decide), if_neg (by decide), if_neg (by decide), if_neg (by decide), if_neg (by decide), if_neg (by decide), if_neg (by decide), if_neg (by decide), if_neg (by decide), if_neg (by decide), if_neg (by decide), if_neg (by decide), if_pos rfl] <;> rfl
theorem jr_22 (h : r.1 = 22) : jrow E r j = some (j, [(6, nI (E.2.2.2.2.2.2 r.2.2.1.toNatClampNeg), -1)]) := by unfold jrow; rw [h, if_neg (by decide), if_neg (by decide), if_neg (by decide), if_neg (by decide), if_neg (by decide), if_neg (by decide), if_neg (by decide), if_neg (by decide), if_neg (by decide), if_neg (by decide), if_neg (by decide), if_neg (by decide), if_neg (by decide), if_neg (by decide), if_neg (by decide), if_neg (by decide), if_neg (by decide), if_neg (by decide), if_neg (by decide), if_neg (by decide), if_neg (by decide), if_neg (by decide), if_neg (by decide), if_neg (by decide), if_neg (by decide), if_neg (by decide), if_neg (by decide), if_pos rfl] <;> rfl
theorem jr_23 (h : r.1 = 23) : jrow E r j = some (j, [(6, nI (E.2.2.2.2.2.2 r.2.2.1.toNatClampNeg), -1)]) := by unfold jrow; rw [h, if_neg (by decide), if_neg (by decide), if_neg (by decide), if_neg (by decide), if_neg (by decide), if_neg (by decide), if_neg (by decide), if_neg (by decide), if_neg (by decide), if_neg (by decide), if_neg (by decide), if_neg (by decide), if_neg (by decide), if_neg (by decide), if_neg (by decide), if_neg (by decide), if_neg (by decide), if_neg (by decide), if_neg (by decide), if_neg (by decide), if_neg (by decide), if_neg (by decide), if_neg (by decide), if_neg (by decide), if_neg (by decide), if_neg (by decide), if_neg (by decide), if_neg (by decide), if_pos rfl] <;> rfl
end MJB24
end
