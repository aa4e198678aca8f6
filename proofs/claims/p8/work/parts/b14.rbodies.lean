/-! ===== what is known of each BLOCK ahead of its judge ===== -/
/-- MEMBER m's BLOCK (384: main's): KINDS kq on, orders i0 on -/
def BDf (T : TT) (N b : Nat) (t : PT) (m kq : Nat) (z : PB) : Prop := sdW z.2.2.2.1 (i0T t m) ((kq, 0, [], 0), npT t.1 m, i0T t m + z.2.2.2.1.length, false, 0) ∧ (fdW z.2.2.2.1 (i0T t m) ((kq, 0, [], 0), npT t.1 m, i0T t m + z.2.2.2.1.length, false, 0)).1.1 ≤ kq + z.2.2.1.length ∧ BK T N b t.2.2.1 t.1 (btT t m) z.1 kq z.2.2.1 ∧ SBo t.2.2.2.1 (i0T t m) (z.2.2.2.1 ++ [oOver]) ∧ kq + z.2.2.1.length ≤ 10000
/-- two BLOCKS -/
def BDx (t : PT) (m m' kq kq' : Nat) (z z' : PB) : Prop := (i0T t m + z.2.2.2.1.length < i0T t m' ∨ i0T t m' + z'.2.2.2.1.length < i0T t m) ∧ ∀ X, kq ≤ X → X < kq + z.2.2.1.length → kq' ≤ X → ¬ X < kq' + z'.2.2.1.length
section MJB14
variable {T : TT} {N k0 b kb m m' : Nat} {t : PT} {rs : List RcM} {z : PB}
theorem sdW_28 : ∀ (l : List Row) (i : Nat) (x : WS), sdW l i x → ∀ (j : Nat) (r : Row), l[j]? = some r → r.1 = 28 → ¬ r.2.2.1 = 0
  | [], _, _, _, _, _, h => by cases h
  | a :: l, i, x, sc, 0, r, h => by
    have e : a = r := by simpa using h
    rw [← e]
    exact okW_28 sc.1
  | a :: l, i, x, sc, j + 1, r, h => by
    have h' : l[j]? = some r := h
    exact sdW_28 l (i + 1) (nxW a i x) sc.2 j r h'
/-- a PARAM stands ahead of its METHOD's BLOCK -/
theorem TRc.par (R : TRc T N k0 t rs kb z) (hN : N ≤ 3000) (hk0 : k0 ≤ 1000) {r : RcM} (hr : rs[m]? = some r) {i : Nat} {p : Nat × Nat × Int32} (hp : r.1.2.2.2.1[i]? = some p) : r.1.2.2.1 = true ∧ p.1 < r.1.2.2.2.2.1 ∧ r.1.2.2.2.2.1 < r.2.1 := by
  obtain ⟨⟨q1, q2, q3, q4, q5, q6, q7, q8⟩, _⟩ := R.mok (R.kex hN hk0) (OT_ex (0, 0, 0, 0, 0) _) (AGf_ex _ R.2.2.1 (fun _ => 0)) hr
  rcases q8 with ⟨_, e, _⟩ | ⟨tt, _, _, e, e3, e4, e5, e6, e7, e8, _, _, _, _, _, e14⟩
  · rw [e] at hp; cases hp
  · have hz := (prS_ln 30 0 1 _ _ _ _ _ (by omega) e7).1
    rcases e4 with ⟨_, e4⟩ | e4
    · rw [e, e4] at hp; cases hp
    · rw [e] at hp
      obtain ⟨_, _, _, w4, w5, _⟩ := e4.2.2.2.2 i p hp
      exact ⟨tt, by omega, by omega⟩
/-- a MEMBER stands behind the one ahead of it -/
theorem TRc.lt2 (R : TRc T N k0 t rs kb z) (hN : N ≤ 3000) (hk0 : k0 ≤ 1000) {r r' : RcM} (hr : rs[m]? = some r) (hr' : rs[m']? = some r') (h : m < m') : r.2.1 ≤ r'.1.1 := (R.2.2.2.2.2.2.2.2.2.2 _ _ _ (R.kex hN hk0) (OT_ex (0, 0, 0, 0, 0) _) (AGf_ex _ R.2.2.1 (fun _ => 0))).1.lt h hr hr'
theorem TRc.mlt (R : TRc T N k0 t rs kb z) (hN : N ≤ 3000) (hk0 : k0 ≤ 1000) {r : RcM} (hr : rs[m]? = some r) : r.1.1 < r.2.1 ∧ r.2.1 < t.2.1.1 := by
  obtain ⟨⟨q1, q2, q3, q4, q5, q6, q7, q8⟩, h⟩ := R.mok (R.kex hN hk0) (OT_ex (0, 0, 0, 0, 0) _) (AGf_ex _ R.2.2.1 (fun _ => 0)) hr
  exact ⟨by omega, h⟩
theorem ORB_of (R : TRc T N k0 t rs kb z) (X : TRx t rs) (hk : k0 = 800 * b) (hb : b ≤ 1) (hN : N ≤ 3000) (hm : m ≤ 384) (im : isMT t.1 m = true) : ORB t.1 (btT t m) (zT rs z m).1 := by
  have hk0 : k0 ≤ 1000 := by omega
  have O := ORD_of R X hk hb hN
  obtain ⟨k1, k2, k3, k4, k5, ⟨k6, k6'⟩, k7, k8, k9⟩ := MBk_ex R hk0 hN m hm im
  by_cases e : m = 384
  · have e1 : btT t m = t.2.1.1 := if_pos e
    rw [e1]
    refine ⟨fun m2 hm2 => ?_, fun c hc h0 => ?_⟩
    · obtain ⟨r, hr, er⟩ := R.at hm2
      have l := R.mlt hN hk0 hr
      rw [← er]
      refine ⟨by omega, fun i p hp => ?_⟩
      have hp' : r.1.2.2.2.1[i]? = some p := by rw [er]; exact hp
      have := R.par hN hk0 hr hp'
      omega
    · have := X.lt R.2.2.2.2.2.1 hc h0
      have e2 : abK t c = (hC t.1 c).2.2.1 := rfl
      omega
  · obtain ⟨g1, g2⟩ := isMT_lt im e
    obtain ⟨k10, k11⟩ := k9 e
    obtain ⟨r, hr, er⟩ := R.at g1
    have e5 : enR rs m = r.2.1 := by unfold enR; rw [hr]
    have eb : btT t m = r.1.2.2.2.2.1 := by
      show (if m = 384 then t.2.1.1 else (mdM t.1 m).2.2.2.2.1) = _
      rw [if_neg e, ← er]
    rw [k10, e5]
    refine ⟨fun m2 hm2 => ?_, fun c hc h0 => ?_⟩
    · by_cases l1 : m2 < m
      · have w := O.2.1 m2 m l1 g1
        refine ⟨by have := w.1; omega, fun i p hp => ?_⟩
        have := w.2 i p hp
        omega
      · by_cases l2 : m2 = m
        · subst l2
          refine ⟨by omega, fun i p hp => ?_⟩
          have hp' : r.1.2.2.2.1[i]? = some p := by rw [er]; exact hp
          have := (R.par hN hk0 hr hp').2.1
          omega
        · obtain ⟨r2, hr2, er2⟩ := R.at hm2
          have w := R.lt2 hN hk0 hr hr2 (by omega)
          rw [er2] at w
          refine ⟨by omega, fun i p hp => ?_⟩
          have := ((O.1 m2 hm2).2 i p hp).2.1
          omega
    · have w := X.hr hc h0 hr
      have e2 : abK t c = (hC t.1 c).2.2.1 := rfl
      rw [er] at w
      omega
theorem BDf_of (R : TRc T N k0 t rs kb z) (X : TRx t rs) (hk : k0 = 800 * b) (hb : b ≤ 1) (hN : N ≤ 3000) (h6 : ∀ m, m < nMem t.1 → (psM t.1 m).length ≤ 6) (hm : m ≤ 384) (im : isMT t.1 m = true) : BDf T N b t m (kqT T rs kb m) (zT rs z m) := by
  have hk0 : k0 ≤ 1000 := by omega
  obtain ⟨⟨o, ho, k1⟩, k2, k3, k4, k5, ⟨k6, k6'⟩, k7, k8, k9⟩ := MBk_ex R hk0 hN m hm im
  have n16 : npT t.1 m ≤ 16 := by
    unfold npT
    by_cases e : m = 384
    · rw [if_pos e]; omega
    · rw [if_neg e]
      have := h6 m (isMT_lt im e).1
      omega
  obtain ⟨g1, g2, g3⟩ := prS_gd 30 0 o _ _ _ _ _ (by omega) (by omega) n16 k1
  obtain ⟨lx', s1, s2⟩ := g3 (by omega) (i0T t m + (zT rs z m).2.2.2.1.length) 0
  refine ⟨s1, by rw [s2]; exact Nat.le_refl _, ⟨g2, by rw [← hk]; exact k3, ORB_of R X hk hb hN hm im, by omega⟩, k4, k7⟩
theorem SBo.ov {os l : List Row} {i : Nat} (h : SBo os i (l ++ [oOver])) : os[i + l.length]? = some oOver ∧ ∀ (j : Nat) (r : Row), l[j]? = some r → os[i + j]? = some r := by
  refine ⟨h l.length oOver ?_, fun j r hj => h j r ?_⟩
  · rw [List.getElem?_append_right (Nat.le_refl _), Nat.sub_self]; rfl
  · rw [List.getElem?_append_left (List.getElem?_eq_some_iff.mp hj).1]; exact hj
theorem BDx_lt (R : TRc T N k0 t rs kb z) (X : TRx t rs) (O : OSt t.2.2.2.1 (mmD t.1) t.2.2.2.2.2) (hk : k0 = 800 * b) (hb : b ≤ 1) (hN : N ≤ 3000) (h6 : ∀ m, m < nMem t.1 → (psM t.1 m).length ≤ 6) (hm' : m' ≤ 384) (im : isMT t.1 m = true) (im' : isMT t.1 m' = true) (hl : m < m') : i0T t m + (zT rs z m).2.2.2.1.length < i0T t m' ∧ (zT rs z m).1 ≤ btT t m' := by
  have hk0 : k0 ≤ 1000 := by omega
  have e : ¬ m = 384 := by omega
  obtain ⟨g1, g2⟩ := isMT_lt im e
  obtain ⟨f1, f2, f3, f4, f5⟩ := BDf_of R X hk hb hN h6 (by omega) im
  obtain ⟨_, _, _, _, _, _, _, _, k9⟩ := MBk_ex R hk0 hN m (by omega) im
  obtain ⟨k10, k11⟩ := k9 e
  obtain ⟨r, hr, er⟩ := R.at g1
  have e5 : enR rs m = r.2.1 := by unfold enR; rw [hr]
  obtain ⟨x, x1, x2, x3, x4⟩ := O m (mdM t.1 m) (mmD_at g1) g2
  have ei : i0T t m = (mdM t.1 m).2.2.2.2.2.2.1 := if_neg e
  have xl : i0T t m + (zT rs z m).2.2.2.1.length ≤ x := by
    by_cases q : i0T t m + (zT rs z m).2.2.2.1.length ≤ x
    · exact q
    · have hj : x - i0T t m < (zT rs z m).2.2.2.1.length := by omega
      obtain ⟨y, hy⟩ : ∃ y, (zT rs z m).2.2.2.1[x - i0T t m]? = some y := ⟨_, List.getElem?_eq_getElem hj⟩
      have w := f4.ov.2 _ y hy
      rw [show i0T t m + (x - i0T t m) = x by omega, x3] at w
      have ey : oOver = y := by simpa using w
      exact absurd (show y.2.2.1 = 0 by rw [← ey]; rfl) (sdW_28 _ _ _ f1 _ y hy (by rw [← ey]; rfl))
  by_cases e' : m' = 384
  · have w1 : i0T t m' = t.2.2.2.2.2 := if_pos e'
    have w2 : btT t m' = t.2.1.1 := if_pos e'
    have l := (R.mlt hN hk0 hr).2
    rw [w1, w2, k10, e5]
    exact ⟨by omega, by omega⟩
  · obtain ⟨g3, g4⟩ := isMT_lt im' e'
    have w1 : i0T t m' = (mdM t.1 m').2.2.2.2.2.2.1 := if_neg e'
    have a := x4 m' (mdM t.1 m') hl (mmD_at g3) g4
    obtain ⟨_, _, _, _, _, _, _, _, k9'⟩ := MBk_ex R hk0 hN m' hm' im'
    obtain ⟨k12, k13⟩ := k9' e'
    obtain ⟨r', hr', er'⟩ := R.at g3
    have c := R.lt2 hN hk0 hr hr' hl
    rw [er'] at c
    rw [w1, k10, e5]
    exact ⟨by omega, by omega⟩
theorem BDx_of (R : TRc T N k0 t rs kb z) (X : TRx t rs) (O : OSt t.2.2.2.1 (mmD t.1) t.2.2.2.2.2) (hk : k0 = 800 * b) (hb : b ≤ 1) (hN : N ≤ 3000) (h6 : ∀ m, m < nMem t.1 → (psM t.1 m).length ≤ 6) (hm : m ≤ 384) (hm' : m' ≤ 384) (im : isMT t.1 m = true) (im' : isMT t.1 m' = true) (ne : ¬ m = m') : BDx t m m' (kqT T rs kb m) (kqT T rs kb m') (zT rs z m) (zT rs z m') := by
  obtain ⟨f1, f2, f3, f4, f5⟩ := BDf_of R X hk hb hN h6 hm im
  obtain ⟨h1, h2, h3, h4, h5⟩ := BDf_of R X hk hb hN h6 hm' im'
  have tok : ∀ {M kq : Nat} {y : PB}, BK T N b t.2.2.1 t.1 (btT t M) y.1 kq y.2.2.1 → ∀ x, kq ≤ x → x < kq + y.2.2.1.length → ∃ u, t.2.2.1[x - 800 * b]? = some u ∧ btT t M ≤ u ∧ u < y.1 := by
    intro M kq y B x l1 l2
    obtain ⟨u, hu⟩ : ∃ u, y.2.2.1[x - kq]? = some u := ⟨_, List.getElem?_eq_getElem (show x - kq < y.2.2.1.length by omega)⟩
    obtain ⟨a1, a2, _⟩ := B.1 u (List.mem_of_getElem? hu)
    have a3 := B.2.1.2 (x - kq) u hu
    have a4 := B.2.1.1
    rw [show kq - 800 * b + (x - kq) = x - 800 * b by omega] at a3
    exact ⟨u, a3, a1, a2⟩
  have key : ∀ x, kqT T rs kb m ≤ x → x < kqT T rs kb m + (zT rs z m).2.2.1.length → kqT T rs kb m' ≤ x → x < kqT T rs kb m' + (zT rs z m').2.2.1.length → ∃ u, (btT t m ≤ u ∧ u < (zT rs z m).1) ∧ (btT t m' ≤ u ∧ u < (zT rs z m').1) := by
    intro x l1 l2 l3 l4
    obtain ⟨u, a1, a2⟩ := tok f3 x l1 l2
    obtain ⟨v, c1, c2⟩ := tok h3 x l3 l4
    rw [a1] at c1
    have e : u = v := by simpa using c1
    rw [← e] at c2
    exact ⟨u, a2, c2⟩
  by_cases hl : m < m'
  · have w := BDx_lt R X O hk hb hN h6 hm' im im' hl
    refine ⟨Or.inl w.1, fun x l1 l2 l3 l4 => ?_⟩
    obtain ⟨u, a, c⟩ := key x l1 l2 l3 l4
    have := w.2
    omega
  · have w := BDx_lt R X O hk hb hN h6 hm im' im (show m' < m by omega)
    refine ⟨Or.inr w.1, fun x l1 l2 l3 l4 => ?_⟩
    obtain ⟨u, a, c⟩ := key x l1 l2 l3 l4
    have := w.2
    omega
end MJB14
