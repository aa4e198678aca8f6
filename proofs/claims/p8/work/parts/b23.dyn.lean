/-! ===== a RUN's values: their CLASSES; which METHOD is done ===== -/
/-- a TYPE without OWNERS: 0 int, 1 null, a CLASS and 2 -/
def ctT (x : Nat) : Nat := match x with
  | k + 2 => cK k + 2
  | x => x
/-- the MEMBER of that NAME and sort that CLASS a tells -/
def gMs (T : TT) (L : List CD) (w : Int64) (isM : Bool) (a : Nat) : Option Nat := match omT T L a w with
  | some m => if mSM L m = isM then some m else none
  | none => none
/-- alike but for OWNERS -/
def SAM (T : TT) (L : List CD) (m o : Nat) : Prop := ctT (tyM T L m) = ctT (tyM T L o) ∧ (psM L m).length = (psM L o).length ∧ ∀ i, i < (psM L o).length → ctT (pyT T L m i) = ctT (pyT T L o i)
section MJB23
variable {T : TT} {N : Nat} {L : List CD} {c a m o p x u : Nat} {w : Int64} {isM : Bool}
theorem ct_sty (hn : HN T N L) (hx : vT L x) : ctT (sty (nmL L) x u) = ctT x := by
  rcases hx with e | ⟨k, e, hk⟩
  · rw [e]; rfl
  · rw [e]
    show cK (stand (nmL L) k u) + 2 = cK k + 2
    rw [stand_c hn hk]
theorem tyM_v (hn : HN T N L) (hh : hmM L m < L.length) : vT L (tyM T L m) := ty_v hn (fun c hc => by cases hc; exact hh)
theorem anc_first {up : Nat → Option Nat} {g : Nat → Option Nat} : ∀ (f x m : Nat), (anc up f (some x)).findSome? g = some m → ∃ j a, j < f ∧ upI up j x = some a ∧ g a = some m ∧ ∀ i, i < j → ∀ y, upI up i x = some y → g y = none
  | 0, x, m, h => by cases h
  | f + 1, x, m, h => by
    have h' : (x :: anc up f (up x)).findSome? g = some m := h
    rw [List.findSome?_cons] at h'
    cases hg : g x with
    | some o =>
      rw [hg] at h'
      have e : o = m := by simpa using h'
      exact ⟨0, x, by omega, rfl, by rw [hg, e], fun i hi => by omega⟩
    | none =>
      rw [hg] at h'
      cases hu : up x with
      | none =>
        rw [hu] at h'
        cases f <;> cases h'
      | some b =>
        rw [hu] at h'
        obtain ⟨j, a, h1, h2, h3, h4⟩ := anc_first f b m h'
        have st : ∀ i, upI up (i + 1) x = upI up i b := fun i => by
          show (match up x with
            | none => none
            | some b => upI up i b) = _
          rw [hu]
        refine ⟨j + 1, a, by omega, by rw [st]; exact h2, h3, fun i hi y hy => ?_⟩
        cases i with
        | zero => cases hy; exact hg
        | succ i =>
          rw [st] at hy
          exact h4 i (by omega) y hy
theorem mem_first (h : memT T L c w isM = some m) : ∃ j a, upI (upT T L) j c = some a ∧ gMs T L w isM a = some m ∧ ∀ i, i < j → ∀ y, upI (upT T L) i c = some y → gMs T L w isM y = none := by
  obtain ⟨j, a, _, h2, h3, h4⟩ := anc_first 16 c m (g := gMs T L w isM) h
  exact ⟨j, a, h2, h3, h4⟩
theorem mem_of (Ac : ACY T N L) (hc : c < L.length) {j : Nat} (h2 : upI (upT T L) j c = some a) (h3 : gMs T L w isM a = some m) (h4 : ∀ i, i < j → ∀ y, upI (upT T L) i c = some y → gMs T L w isM y = none) : memT T L c w isM = some m := by
  have := anc_find (up := upT T L) (g := gMs T L w isM) j 16 c a h4 h2 (up_end Ac hc h2) (Or.inl (by rw [h3]; intro e; cases e))
  rw [h3] at this
  exact this
theorem om_in (hc : a < L.length) (h : omT T L a w = some o) : o < nMem L ∧ hmM L o = a ∧ nkM T L o = w := by
  obtain ⟨x1, x2, x3⟩ := om_lt h
  have e := hm_at (L := L) hc (show o - fmL L a < mcL L a by omega)
  rw [show fmL L a + (o - fmL L a) = o by omega] at e
  refine ⟨?_, e, x3⟩
  obtain ⟨D, hD⟩ : ∃ D, L[a]? = some D := ⟨_, List.getElem?_eq_getElem hc⟩
  have t := nMem_take hD
  have e2 : mcL L a = D.2.length := by unfold mcL; rw [hD]
  have e3 : fmL L a = nMem (L.take a) := rfl
  omega
theorem gMs_in (hc : a < L.length) (h : gMs T L w isM a = some m) : m < nMem L ∧ hmM L m = a ∧ nkM T L m = w ∧ mSM L m = isM ∧ omT T L a w = some m := by
  unfold gMs at h
  cases ho : omT T L a w with
  | none => rw [ho] at h; cases h
  | some o =>
    rw [ho] at h
    dsimp only at h
    by_cases g : mSM L o = isM
    · rw [if_pos g] at h
      cases h
      obtain ⟨a1, a2, a3⟩ := om_in hc ho
      exact ⟨a1, a2, a3, g, rfl⟩
    · rw [if_neg g] at h; cases h
theorem mem_in (Ac : ACY T N L) (hc : c < L.length) (h : memT T L c w isM = some m) : m < nMem L ∧ hmM L m < L.length ∧ nkM T L m = w ∧ mSM L m = isM ∧ (vwT (nmL L) (abT T L) c (hmM L m)).isSome = true := by
  obtain ⟨j, a, h2, h3, _⟩ := mem_first h
  have al := up_in Ac hc h2
  obtain ⟨g1, g2, g3, g4, _⟩ := gMs_in al h3
  exact ⟨g1, by rw [g2]; exact al, g3, g4, by rw [g2]; exact (vw_iff Ac hc).mpr ⟨j, h2⟩⟩
theorem up_S {j : Nat} {b : Nat} (hu : upT T L c = some b) : upI (upT T L) (j + 1) c = upI (upT T L) j b := by
  show (match upT T L c with
    | none => none
    | some b => upI (upT T L) j b) = _
  rw [hu]
/-- the METHOD that is done is like the one that was judged -/
theorem dyn_m (Ac : ACY T N L) (ok : ∀ m, m < nMem L → OKe T L m) : ∀ (i c : Nat), c < L.length → upI (upT T L) i c = some a → memT T L a w true = some p → ∃ d, memT T L c w true = some d ∧ SAM T L d p
  | 0, c, hc, hi, h => by
    cases hi
    exact ⟨p, h, rfl, rfl, fun _ _ => rfl⟩
  | i + 1, c, hc, hi, h => by
    cases hu : upT T L c with
    | none =>
      have : (match upT T L c with
        | none => none
        | some b => upI (upT T L) i b) = some a := hi
      rw [hu] at this
      cases this
    | some c1 =>
      rw [up_S hu] at hi
      have c1l : c1 < L.length := up_in Ac hc (j := 1) (by rw [up_S hu]; rfl)
      obtain ⟨d, d1, s1, s2, s3⟩ := dyn_m Ac ok i c1 c1l hi h
      obtain ⟨j, a1, j2, j3, j4⟩ := mem_first d1
      have al := up_in Ac c1l j2
      obtain ⟨g1, g2, g3, g4, g5⟩ := gMs_in al j3
      cases ho : omT T L c w with
      | none =>
        refine ⟨d, mem_of Ac hc (j := j + 1) (by rw [up_S hu]; exact j2) j3 (fun i hi y hy => ?_), s1, s2, s3⟩
        cases i with
        | zero => cases hy; unfold gMs; rw [ho]
        | succ i => rw [up_S hu] at hy; exact j4 i (by omega) y hy
      | some m =>
        obtain ⟨m1, m2, m3⟩ := om_in hc ho
        obtain ⟨k1, k2⟩ := ok m m1
        have anc1 : ∀ (i : Nat) (y : Nat), upI (upT T L) i c1 = some y → y ∈ ancM T L m := by
          intro i y hy
          have e16 := up_end Ac c1l hy
          have e : ancM T L m = anc (upT T L) 16 (some c1) := by unfold ancM; rw [m2, hu]
          rw [e]
          have gen : ∀ (f i x : Nat), i < f → upI (upT T L) i x = some y → y ∈ anc (upT T L) f (some x) := by
            intro f
            induction f with
            | zero => intro i x h; omega
            | succ f ih =>
              intro i x hf hx
              show y ∈ x :: anc (upT T L) f (upT T L x)
              cases i with
              | zero => cases hx; exact List.mem_cons_self
              | succ i =>
                cases hv : upT T L x with
                | none =>
                  have : (match upT T L x with
                    | none => none
                    | some b => upI (upT T L) i b) = some y := hx
                  rw [hv] at this
                  cases this
                | some b =>
                  rw [up_S hv] at hx
                  exact List.mem_cons_of_mem _ (ih i b (by omega) hx)
          exact gen 16 i c1 e16 hy
        have sm : mSM L m = true := (k1 a1 (anc1 j a1 j2) d (by rw [m3]; exact g5)).1
        have near : nearM T L m = some d := by
          have e : ancM T L m = anc (upT T L) 16 (some c1) := by unfold ancM; rw [m2, hu]
          unfold nearM
          rw [e, m3]
          have := anc_find (up := upT T L) (g := fun a => omT T L a w) j 16 c1 a1 (fun i hi y hy => ?_) j2 (up_end Ac c1l j2) (Or.inl (by rw [g5]; intro e; cases e))
          · rw [g5] at this
            exact this
          · have q := j4 i hi y hy
            unfold gMs at q
            cases hy2 : omT T L y w with
            | none => rfl
            | some z =>
              rw [hy2] at q
              dsimp only at q
              have := (k1 y (anc1 i y hy) z (by rw [m3]; exact hy2)).2
              rw [if_pos this] at q
              cases q
        have vw : ∃ v, vwT (nmL L) (abT T L) (hmM L m) (hmM L d) = some v := by
          have := (vw_iff Ac hc (a := a1)).mpr ⟨j + 1, by rw [up_S hu]; exact j2⟩
          rw [m2, g2]
          exact Option.isSome_iff_exists.mp this
        obtain ⟨v, hv⟩ := vw
        obtain ⟨q1, q2, q3⟩ := k2 d near v hv
        have dl : hmM L d < L.length := by rw [g2]; exact al
        refine ⟨m, mem_of Ac hc (j := 0) rfl (by unfold gMs; rw [ho]; exact if_pos sm) (fun i hi => by omega), ?_, by rw [q2, s2], fun i hi => ?_⟩
        · rw [q1, ct_sty Ac.1 (tyM_v Ac.1 dl)]; exact s1
        · rw [q3 i (by omega), ct_sty Ac.1 (py_v Ac.1 dl)]; exact s3 i hi
end MJB23
