/-! ===== FIELDS of a CLASS and those above it ===== -/
section MJA85
variable {T : TT} {d N b k t c n m v u a o p : Nat} {ks : List Nat} {L : List CD} {s s' : mjSt3}
theorem vw_iff (Ac : ACY T N L) (hc : c < L.length) : (vwT (nmL L) (abT T L) c a).isSome = true ↔ ∃ j, upI (upT T L) j c = some a := by
  have hn := Ac.1
  constructor
  · intro h
    cases hv : vwT (nmL L) (abT T L) c a with
    | none => rw [hv] at h; cases h
    | some w =>
      obtain ⟨j, _, j2, j3⟩ := vwk_at hv
      exact ⟨j, by rw [← j3]; exact chn_c hn hc j w j2⟩
  · intro ⟨j, hj⟩
    obtain ⟨v, v1, v2⟩ := chn_ex hn hc j a hj
    have := vw_chn Ac hc v1 (up_end Ac hc hj)
    rw [v2] at this
    rw [this]
    rfl
theorem up_in (Ac : ACY T N L) (hc : c < L.length) {j : Nat} (h : upI (upT T L) j c = some a) : a < L.length := by
  obtain ⟨v, v1, v2⟩ := chn_ex Ac.1 hc j a h
  rw [← v2]
  exact (chn_v Ac.1 hc j v v1).cl Ac.1
theorem fld_top (Ac : ACY T N L) (hc : c < L.length) (h : upT T L c = none) : fldT T L c = oflL L c := by
  have z : sumN (fun _ => 0) L.length = 0 := by
    have := sumN_le (f := fun _ => 0) (b := 0) (n := L.length) (fun _ _ => Nat.le_refl _)
    omega
  have e := sumN_add (f := fun a => if (vwT (nmL L) (abT T L) c a).isSome = true then oflL L a else 0) (g := fun _ => 0) (c := c) (x := oflL L c) hc (by
    try dsimp only
    rw [if_pos ((vw_iff Ac hc).mpr ⟨0, rfl⟩)]
    omega) (fun i hi ne => by
    try dsimp only
    rw [if_neg]
    intro q
    obtain ⟨j, hj⟩ := (vw_iff Ac hc).mp q
    cases j with
    | zero => cases hj; exact ne rfl
    | succ j =>
      have hj' : (match upT T L c with
        | none => none
        | some b => upI (upT T L) j b) = some i := hj
      rw [h] at hj'
      cases hj')
  unfold fldT
  rw [e, z]
  omega
theorem fld_up (Ac : ACY T N L) (hc : c < L.length) (h : upT T L c = some p) : fldT T L c = fldT T L p + oflL L c := by
  have pl := up_lt Ac.1 hc h
  have st : ∀ j, upI (upT T L) (j + 1) c = upI (upT T L) j p := fun j => by
    show (match upT T L c with
      | none => none
      | some b => upI (upT T L) j b) = _
    rw [h]
  refine sumN_add hc ?_ (fun i hi ne => ?_)
  · try dsimp only
    rw [if_pos ((vw_iff Ac hc).mpr ⟨0, rfl⟩), if_neg]
    · omega
    · intro q
      obtain ⟨j, hj⟩ := (vw_iff Ac pl).mp q
      have j16 := up_end Ac pl hj
      exact Ac.2 c hc j (by omega) (by rw [st]; exact hj)
  · try dsimp only
    by_cases q : (vwT (nmL L) (abT T L) p i).isSome = true
    · rw [if_pos q, if_pos]
      obtain ⟨j, hj⟩ := (vw_iff Ac pl).mp q
      exact (vw_iff Ac hc).mpr ⟨j + 1, by rw [st]; exact hj⟩
    · rw [if_neg q, if_neg]
      intro w
      obtain ⟨j, hj⟩ := (vw_iff Ac hc).mp w
      cases j with
      | zero => cases hj; exact ne rfl
      | succ j =>
        rw [st] at hj
        exact q ((vw_iff Ac pl).mpr ⟨j, hj⟩)
theorem fld_anc (Ac : ACY T N L) : ∀ (j c a : Nat), c < L.length → upI (upT T L) (j + 1) c = some a → fldT T L a + oflL L c ≤ fldT T L c
  | 0, c, a, hc, h => by
    have h' : (match upT T L c with
      | none => none
      | some b => upI (upT T L) 0 b) = some a := h
    cases hu : upT T L c with
    | none => rw [hu] at h'; cases h'
    | some p =>
      rw [hu] at h'
      cases h'
      rw [fld_up Ac hc hu]
      omega
  | j + 1, c, a, hc, h => by
    have h' : (match upT T L c with
      | none => none
      | some b => upI (upT T L) (j + 1) b) = some a := h
    cases hu : upT T L c with
    | none => rw [hu] at h'; cases h'
    | some p =>
      rw [hu] at h'
      have := fld_anc Ac j p a (up_lt Ac.1 hc hu) h'
      rw [fld_up Ac hc hu]
      omega
/-- a FIELD's place -/
theorem num_fld (hm : m < nMem L) (hs : mSM L m = false) : nuM L m < oflL L (hmM L m) ∧ numM T L m = nuM L m + (fldT T L (hmM L m) - oflL L (hmM L m)) := by
  have a := nu_lt hm
  rw [hs] at a
  refine ⟨?_, by unfold numM; rw [hs]; rfl⟩
  unfold oflL
  cases h : L[hmM L m]? with
  | none =>
    rw [h] at a
    exact absurd a (Nat.not_lt_zero _)
  | some D => rw [h] at a; exact a
theorem nu_inj (hm : m < nMem L) (ho : o < nMem L) (hh : hmM L m = hmM L o) (hs : mSM L m = mSM L o) (e : nuM L m = nuM L o) : m = o := by
  have key : ∀ m o, m < nMem L → o < nMem L → hmM L m = hmM L o → mSM L m = mSM L o → m < o → nuM L m < nuM L o := by
    intro m o hm ho hh hs lt
    obtain ⟨c, D, k, h1, h2, h3, h4⟩ := FL_ex hm
    obtain ⟨c', D', k', g1, g2, g3, g4⟩ := FL_ex ho
    have ec : c = c' := by rw [← h4, ← g4, hh]
    subst ec
    rw [h1] at g1
    cases g1
    unfold nuM
    rw [h4, g4, h1]
    dsimp only
    have e1 : m - fmL L c = k := by unfold fmL; omega
    have e2 : o - fmL L c = k' := by unfold fmL; omega
    rw [e1, e2, ← hs]
    have e3 : (D.2.take k')[k]? = some (mdM L m) := by
      rw [List.getElem?_take_of_lt (by omega)]
      exact h2
    have := cnt_lt (b := mSM L m) e3 rfl
    rw [List.take_take, Nat.min_eq_left (by omega)] at this
    exact this
  by_cases q : m = o
  · exact q
  · by_cases g : m < o
    · have := key m o hm ho hh hs g; omega
    · have := key o m ho hm hh.symm hs.symm (by omega); omega
/-- no two FIELDS of a CLASS have one place -/
theorem num_inj (Ac : ACY T N L) (hh : ∀ m, m < nMem L → hmM L m < L.length) (hc : c < L.length) (hm : m < nMem L) (ho : o < nMem L) (sm : mSM L m = false) (so : mSM L o = false) (vm : (vwT (nmL L) (abT T L) c (hmM L m)).isSome = true) (vo : (vwT (nmL L) (abT T L) c (hmM L o)).isSome = true) (e : numM T L m = numM T L o) : m = o := by
  obtain ⟨j, hj⟩ := (vw_iff Ac hc).mp vm
  obtain ⟨j', hj'⟩ := (vw_iff Ac hc).mp vo
  obtain ⟨m1, m2⟩ := num_fld (T := T) hm sm
  obtain ⟨o1, o2⟩ := num_fld (T := T) ho so
  have fm := ofl_fld (T := T) (c := hmM L m) Ac.1
  have fo := ofl_fld (T := T) (c := hmM L o) Ac.1
  have step : ∀ i i' x y, i < i' → upI (upT T L) i c = some x → upI (upT T L) i' c = some y → fldT T L y + oflL L x ≤ fldT T L x := by
    intro i i' x y lt hx hy
    rw [show i' = i + (i' - i - 1 + 1) by omega, upI_add, hx] at hy
    exact fld_anc Ac _ x y (up_in Ac hc hx) hy
  by_cases q : j = j'
  · subst q
    rw [hj] at hj'
    have ea : hmM L m = hmM L o := by simpa using hj'
    rw [ea] at m2
    exact nu_inj hm ho ea (by rw [sm, so]) (by omega)
  · by_cases g : j < j'
    · have := step j j' _ _ g hj hj'
      omega
    · have := step j' j _ _ (by omega) hj' hj
      omega
/-- what stands at a FIELD's place -/
theorem ob_at (Ac : ACY T N L) (hh : ∀ m, m < nMem L → hmM L m < L.length) (hc : c < L.length) (hm : m < nMem L) (sm : mSM L m = false) (vm : (vwT (nmL L) (abT T L) c (hmM L m)).isSome = true) : obT T L c (numM T L m) = decide (2 ≤ tyM T L m) := by
  have any : ∀ (g : Nat → Bool) n, anyB g n = true ↔ ∃ x, x < n ∧ g x = true := by
    intro g n
    induction n with
    | zero => exact ⟨fun e => (by cases e), fun ⟨x, h, _⟩ => (by omega)⟩
    | succ n ih =>
      show (anyB g n || g n) = true ↔ _
      rw [Bool.or_eq_true, ih]
      constructor
      · rintro (⟨x, h1, h2⟩ | h)
        · exact ⟨x, by omega, h2⟩
        · exact ⟨n, by omega, h⟩
      · intro ⟨x, h1, h2⟩
        by_cases e : x = n
        · rw [e] at h2; exact Or.inr h2
        · exact Or.inl ⟨x, by omega, h2⟩
  unfold obT
  rw [Bool.eq_iff_iff, any, decide_eq_true_iff]
  constructor
  · intro ⟨x, x1, x2⟩
    unfold obM at x2
    rw [Bool.and_eq_true, Bool.and_eq_true, Bool.and_eq_true, Bool.not_eq_true', decide_eq_true_iff, decide_eq_true_iff] at x2
    obtain ⟨⟨⟨y1, y2⟩, y3⟩, y4⟩ := x2
    have := num_inj Ac hh hc x1 hm y1 sm y3 vm y4
    rw [← this]
    exact y2
  · intro h
    refine ⟨m, hm, ?_⟩
    unfold obM
    rw [sm, vm, decide_eq_true h, decide_eq_true rfl]
    rfl
end MJA85
