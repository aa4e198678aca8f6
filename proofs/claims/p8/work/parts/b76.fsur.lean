/-! ===== every place of an OBJECT is a FIELD's ===== -/
section MJB76
variable {T : TT} {N c i m : Nat} {L : List CD}
theorem cntB_cons (b : Bool) (a : MD) (l : List MD) : cntB b (a :: l) = (if a.2.2.1 = b then 1 else 0) + cntB b l := by
  unfold cntB
  rw [List.filter_cons]
  by_cases h : a.2.2.1 = b
  · rw [if_pos (beq_iff_eq.mpr h), if_pos h, List.length_cons]
    omega
  · rw [if_neg (fun e => h (beq_iff_eq.mp e)), if_neg h]
    omega
theorem cnt_sur (b : Bool) : ∀ (l : List MD) (i : Nat), i < cntB b l → ∃ k md, l[k]? = some md ∧ md.2.2.1 = b ∧ cntB b (l.take k) = i
  | [], i, h => by
    have : i < 0 := h
    omega
  | a :: l, i, h => by
    rw [cntB_cons] at h
    by_cases g : a.2.2.1 = b
    · rw [if_pos g] at h
      cases i with
      | zero => exact ⟨0, a, rfl, g, rfl⟩
      | succ i =>
        obtain ⟨k, md, k1, k2, k3⟩ := cnt_sur b l i (by omega)
        refine ⟨k + 1, md, k1, k2, ?_⟩
        rw [List.take_succ_cons, cntB_cons, if_pos g, k3]
        omega
    · rw [if_neg g] at h
      obtain ⟨k, md, k1, k2, k3⟩ := cnt_sur b l i (by omega)
      refine ⟨k + 1, md, k1, k2, ?_⟩
      rw [List.take_succ_cons, cntB_cons, if_neg g, k3]
      omega
theorem own_sur (hfm : ∀ c, c < L.length → fmL L c + mcL L c ≤ nMem L) (hc : c < L.length) (hi : i < oflL L c) : ∃ m, m < nMem L ∧ mSM L m = false ∧ hmM L m = c ∧ nuM L m = i := by
  unfold oflL at hi
  cases hD : L[c]? with
  | none =>
    have := List.getElem?_eq_none_iff.mp hD
    omega
  | some D =>
    rw [hD] at hi
    dsimp only at hi
    obtain ⟨k, md, k1, k2, k3⟩ := cnt_sur false D.2 i hi
    obtain ⟨f1, f2⟩ := FL_at hD k1
    have kl := (List.getElem?_eq_some_iff.mp k1).1
    have h1 := hfm c hc
    have h2 : mcL L c = D.2.length := by unfold mcL; rw [hD]
    have h3 : fmL L c = nMem (L.take c) := rfl
    have ms : mSM L (nMem (L.take c) + k) = false := by unfold mSM; rw [f2]; exact k2
    refine ⟨nMem (L.take c) + k, by omega, ms, f1, ?_⟩
    unfold nuM
    rw [ms, f1, hD, h3]
    dsimp only
    rw [show nMem (L.take c) + k - nMem (L.take c) = k by omega]
    exact k3
theorem fld_sur (Ac : ACY T N L) (hfm : ∀ c, c < L.length → fmL L c + mcL L c ≤ nMem L) : ∀ (f c i : Nat), c < L.length → (∀ n x, upI (upT T L) n c = some x → n < f) → i < fldT T L c → ∃ m, m < nMem L ∧ mSM L m = false ∧ (vwT (nmL L) (abT T L) c (hmM L m)).isSome = true ∧ numM T L m = i
  | 0, c, i, hc, hf, hi => absurd (hf 0 c rfl) (Nat.lt_irrefl 0)
  | f + 1, c, i, hc, hf, hi => by
    have ow : ∀ k, k < oflL L c → k + (fldT T L c - oflL L c) = i → ∃ m, m < nMem L ∧ mSM L m = false ∧ (vwT (nmL L) (abT T L) c (hmM L m)).isSome = true ∧ numM T L m = i := by
      intro k hk e
      obtain ⟨m, m1, m2, m3, m4⟩ := own_sur hfm hc hk
      refine ⟨m, m1, m2, by rw [m3]; exact (vw_iff Ac hc).mpr ⟨0, rfl⟩, ?_⟩
      rw [(num_fld (T := T) m1 m2).2, m3, m4]
      exact e
    cases hu : upT T L c with
    | none =>
      have e := fld_top Ac hc hu
      exact ow i (by omega) (by omega)
    | some p =>
      have e := fld_up Ac hc hu
      by_cases g : i < fldT T L p
      · have st : ∀ n, upI (upT T L) (n + 1) c = upI (upT T L) n p := fun n => by
          show (match upT T L c with
            | none => none
            | some b => upI (upT T L) n b) = _
          rw [hu]
        obtain ⟨m, m1, m2, m3, m4⟩ := fld_sur Ac hfm f p i (up_lt Ac.1 hc hu) (fun n x hx => by
          have := hf (n + 1) x (by rw [st]; exact hx)
          omega) g
        obtain ⟨j, hj⟩ := (vw_iff Ac (up_lt Ac.1 hc hu)).mp m3
        exact ⟨m, m1, m2, (vw_iff Ac hc).mpr ⟨j + 1, by rw [st]; exact hj⟩, m4⟩
      · exact ow (i - fldT T L p) (by omega) (by omega)
theorem fld_ex (Ac : ACY T N L) (hfm : ∀ c, c < L.length → fmL L c + mcL L c ≤ nMem L) (hc : c < L.length) (hi : i < fldT T L c) : ∃ m, m < nMem L ∧ mSM L m = false ∧ (vwT (nmL L) (abT T L) c (hmM L m)).isSome = true ∧ numM T L m = i := fld_sur Ac hfm 16 c i hc (fun _ _ h => up_end Ac hc h) hi
end MJB76
