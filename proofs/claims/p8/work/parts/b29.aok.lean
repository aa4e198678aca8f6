/-! ===== a RUN's values have their TYPES ===== -/
def EMx (T : TT) (t : PT) (tr : Bool) (k0 m : Nat) : EV := EmT T t.1 tr (ktL k0 t.2.2.1) m
def vtX (T : TT) (t : PT) (rs : List RcM) (z : PB) (tr : Bool) (k0 m v : Nat) : Nat := vtM T t.1 (EMx T t tr k0 m) (osM rs z m) m v
def TYS (T : TT) (L : List CD) (H : HEAP) : List Int32 → List Nat → Prop
  | [], [] => True
  | v :: vs, x :: xs => vOK T L H x v ∧ TYS T L H vs xs
  | _, _ => False
def HOK (T : TT) (L : List CD) (H : HEAP) : Prop := ∀ o, 1 ≤ o → o ≤ H.1 → (H.2 o).1 < L.length ∧ (∀ i, (H.2 o).2.1 i < o) ∧ ∀ m, m < nMem L → mSM L m = false → (vwT (nmL L) (abT T L) (H.2 o).1 (hmM L m)).isSome = true → vOK T L H (tyM T L m) ((H.2 o).2.2 (numM T L m))
def FOK (T : TT) (t : PT) (rs : List RcM) (z : PB) (tr : Bool) (k0 : Nat) (H : HEAP) (f : FRM) : Prop := ((f.1 = 384 ∧ f.2.1 = 0) ∨ (f.1 < nMem t.1 ∧ mSM t.1 f.1 = true ∧ 1 ≤ f.2.1 ∧ f.2.1 ≤ H.1 ∧ (vwT (nmL t.1) (abT T t.1) (H.2 f.2.1).1 (hmM t.1 f.1)).isSome = true)) ∧ ∀ v, v < 16 → vOK T t.1 H (vtX T t rs z tr k0 f.1 v) (f.2.2.2.1 v)
/-- the CALLS that wait for the CALL of MEMBER m; the first goes on at k -/
def SUS (T : TT) (t : PT) (rs : List RcM) (z : PB) (tr : Bool) (k0 : Nat) (H : HEAP) : List FRM → Nat → Nat → List Int32 → Prop
  | [], m, _, st => m = 384 ∧ st = []
  | f :: fs, m, k, st => m < nMem t.1 ∧ FOK T t rs z tr k0 H f ∧ k ≤ (osM rs z f.1).length ∧ ∃ j l x xs seg rest, jrun (EMx T t tr k0 f.1) ((osM rs z f.1).take k) (jmT T t.1 f.1) = some (j, l) ∧ jRS j = x :: xs ∧ ctT x = ctT (tyM T t.1 m) ∧ TYS T t.1 H seg xs ∧ st = seg ++ rest ∧ SUS T t rs z tr k0 H fs f.1 f.2.2.2.2 rest
def RUNOK (T : TT) (t : PT) (rs : List RcM) (z : PB) (tr : Bool) (k0 : Nat) (A : AMS) : Prop := ∃ f fs, A.2.1 = f :: fs ∧ FOK T t rs z tr k0 A.1 f ∧ A.2.2.1 ≤ (osM rs z f.1).length ∧ ∃ j l seg rest, jrun (EMx T t tr k0 f.1) ((osM rs z f.1).take A.2.2.1) (jmT T t.1 f.1) = some (j, l) ∧ TYS T t.1 A.1 seg (jRS j) ∧ A.2.2.2.1 = seg ++ rest ∧ SUS T t rs z tr k0 A.1 fs f.1 f.2.2.2.2 rest
def AOK (T : TT) (t : PT) (rs : List RcM) (z : PB) (tr : Bool) (k0 wm cm : Nat) (A : AMS) : Prop := HOK T t.1 A.1 ∧ bsH T t.1 A.1 A.1.1 ≤ wm ∧ A.2.1.length ≤ cm ∧ (A.2.2.2.2.2.2.2.2.1 = 1 → RUNOK T t rs z tr k0 A) ∧ (¬ A.2.2.2.2.2.2.2.2.1 = 1 → A.2.1 = [])
section MJB29
variable {T : TT} {N k0 kb wm cm : Nat} {L : List CD} {t : PT} {rs : List RcM} {z : PB} {tr : Bool} {H H' : HEAP}
theorem TYS.ext (e : HX H H') : ∀ (vs : List Int32) (xs : List Nat), TYS T L H vs xs → TYS T L H' vs xs
  | [], [], _ => trivial
  | [], _ :: _, h => h.elim
  | _ :: _, [], h => h.elim
  | v :: vs, x :: xs, h => ⟨h.1.ext e, TYS.ext e vs xs h.2⟩
theorem TYS.len : ∀ (vs : List Int32) (xs : List Nat), TYS T L H vs xs → vs.length = xs.length
  | [], [], _ => rfl
  | [], _ :: _, h => h.elim
  | _ :: _, [], h => h.elim
  | v :: vs, x :: xs, h => by rw [List.length_cons, List.length_cons, TYS.len vs xs h.2]
theorem TYS.cons {x : Nat} {xs : List Nat} : ∀ {vs : List Int32}, TYS T L H vs (x :: xs) → ∃ v vs', vs = v :: vs' ∧ vOK T L H x v ∧ TYS T L H vs' xs
  | [], h => h.elim
  | v :: vs, h => ⟨v, vs, rfl, h.1, h.2⟩
theorem TYS.app : ∀ {as : List Nat} {xs : List Nat} {vs : List Int32}, TYS T L H vs (as ++ xs) → ∃ us ws, vs = us ++ ws ∧ TYS T L H us as ∧ TYS T L H ws xs
  | [], xs, vs, h => ⟨[], vs, rfl, trivial, h⟩
  | a :: as, xs, vs, h => by
    obtain ⟨v, vs', e, h1, h2⟩ := TYS.cons h
    obtain ⟨us, ws, e2, h3, h4⟩ := TYS.app h2
    exact ⟨v :: us, ws, by rw [e, e2]; rfl, ⟨h1, h3⟩, h4⟩
theorem TYS.at : ∀ {xs : List Nat} {vs : List Int32} {i x : Nat}, TYS T L H vs xs → xs[i]? = some x → ∃ v, vs[i]? = some v ∧ vOK T L H x v
  | [], vs, i, x, _, h => by cases h
  | y :: xs, vs, i, x, h, hi => by
    obtain ⟨v, vs', e, h1, h2⟩ := TYS.cons h
    subst e
    cases i with
    | zero =>
      have e : y = x := by simpa using hi
      exact ⟨v, rfl, by rw [← e]; exact h1⟩
    | succ i =>
      have hi' : xs[i]? = some x := hi
      obtain ⟨w, w1, w2⟩ := TYS.at h2 hi'
      exact ⟨w, w1, w2⟩
theorem TYS.nil {vs : List Int32} (h : TYS T L H vs []) : vs = [] := by
  cases vs with
  | nil => rfl
  | cons v vs => exact h.elim
theorem FOK.ext {f : FRM} (h : FOK T t rs z tr k0 H f) (e : HX H H') : FOK T t rs z tr k0 H' f := by
  refine ⟨?_, fun v hv => (h.2 v hv).ext e⟩
  rcases h.1 with h | ⟨h1, h2, h3, h4, h5⟩
  · exact Or.inl h
  · exact Or.inr ⟨h1, h2, h3, Nat.le_trans h4 e.1, by rw [e.2 _ h3 h4]; exact h5⟩
theorem SUS.ext (e : HX H H') : ∀ (fs : List FRM) (m k : Nat) (st : List Int32), SUS T t rs z tr k0 H fs m k st → SUS T t rs z tr k0 H' fs m k st
  | [], m, k, st, h => h
  | f :: fs, m, k, st, ⟨h0, h1, h2, j, l, x, xs, seg, rest, h3, h4, h5, h6, h7, h8⟩ => ⟨h0, h1.ext e, h2, j, l, x, xs, seg, rest, h3, h4, h5, TYS.ext e _ _ h6, h7, SUS.ext e fs _ _ _ h8⟩
theorem FOK.mt {f : FRM} (h : FOK T t rs z tr k0 H f) (m384 : nMem t.1 ≤ 384) : f.1 ≤ 384 ∧ isMT t.1 f.1 = true := by
  rcases h.1 with ⟨h, _⟩ | ⟨h1, h2, _⟩
  · rw [h]; exact ⟨Nat.le_refl _, rfl⟩
  · refine ⟨by omega, ?_⟩
    unfold isMT
    rw [decide_eq_true h1, h2]
    exact Bool.or_true _
theorem HX.set {o i : Nat} {v : Int32} : HX H (setF H o i v) := by
  refine ⟨Nat.le_refl _, fun x _ _ => ?_⟩
  show (if x = o then _ else H.2 x).1 = _
  by_cases e : x = o
  · rw [if_pos e, e]
  · rw [if_neg e]
theorem HX.add {c : Nat} {ow : Nat → Nat} : HX H (addO H c ow) := by
  refine ⟨Nat.le_succ _, fun x _ h2 => ?_⟩
  show (if x = H.1 + 1 then _ else H.2 x).1 = _
  rw [if_neg (by omega)]
/-- a FIELD of an OBJECT is set -/
theorem HOK.set (Ac : ACY T N L) (hh : ∀ m, m < nMem L → hmM L m < L.length) (h : HOK T L H) {o m : Nat} {v : Int32} (o1 : 1 ≤ o) (o2 : o ≤ H.1) (hm : m < nMem L) (ms : mSM L m = false) (vm : (vwT (nmL L) (abT T L) (H.2 o).1 (hmM L m)).isSome = true) (hv : vOK T L H (tyM T L m) v) : HOK T L (setF H o (numM T L m) v) := by
  intro x x1 x2
  have x2' : x ≤ H.1 := x2
  obtain ⟨a1, a2, a3⟩ := h x x1 x2'
  have ex : (setF H o (numM T L m) v).2 x = if x = o then ((H.2 o).1, (H.2 o).2.1, fun y => if y = numM T L m then v else (H.2 o).2.2 y) else H.2 x := rfl
  by_cases e : x = o
  · subst e
    rw [ex, if_pos rfl]
    refine ⟨a1, a2, fun m' hm' ms' vm' => ?_⟩
    dsimp only
    by_cases q : numM T L m' = numM T L m
    · have := num_inj Ac hh a1 hm' hm ms' ms vm' vm q
      rw [if_pos q, this]
      exact hv.ext HX.set
    · rw [if_neg q]
      exact (a3 m' hm' ms' vm').ext HX.set
  · rw [ex, if_neg e]
    exact ⟨a1, a2, fun m' hm' ms' vm' => (a3 m' hm' ms' vm').ext HX.set⟩
/-- an OBJECT is made -/
theorem HOK.add (h : HOK T L H) {c : Nat} {ow : Nat → Nat} (hc : c < L.length) (ho : ∀ i, ow i < H.1 + 1) : HOK T L (addO H c ow) := by
  intro x x1 x2
  have x2' : x ≤ H.1 + 1 := x2
  have ex : (addO H c ow).2 x = if x = H.1 + 1 then (c, ow, fun _ => 0) else H.2 x := rfl
  by_cases e : x = H.1 + 1
  · rw [ex, if_pos e]
    exact ⟨hc, fun i => by rw [e]; exact ho i, fun _ _ _ _ => vOK.zero⟩
  · rw [ex, if_neg e]
    obtain ⟨a1, a2, a3⟩ := h x x1 (by omega)
    exact ⟨a1, a2, fun m' hm' ms' vm' => (a3 m' hm' ms' vm').ext HX.add⟩
theorem here_lt (h : HOK T L H) {m o x : Nat} (ho : o ≤ H.1) : hereO T L H m o x < H.1 + 1 := by
  unfold hereO
  by_cases e : x = 5 ∨ o = 0
  · rw [if_pos e]; omega
  · rw [if_neg e]
    by_cases e6 : x = 6
    · rw [if_pos e6]; omega
    · rw [if_neg e6]
      have o1 : 1 ≤ o := by
        by_cases q : o = 0
        · exact absurd (Or.inr q) e
        · omega
      unfold seenO
      cases vwT (nmL L) (abT T L) (H.2 o).1 (hmM L m) with
      | none => show 0 < _; omega
      | some v =>
        dsimp only
        by_cases q : oK v x < nmL L (H.2 o).1
        · rw [if_pos q]
          have := (h o o1 ho).2.1 (oK v x)
          omega
        · rw [if_neg q]; omega
theorem bs_same (e : ∀ o, 1 ≤ o → o ≤ H.1 → (H'.2 o).1 = (H.2 o).1) : ∀ o, o ≤ H.1 → bsH T L H' o = bsH T L H o
  | 0, _ => rfl
  | o + 1, h => by
    show bsH T L H' o + szO T L (H'.2 (o + 1)).1 = bsH T L H o + szO T L (H.2 (o + 1)).1
    rw [bs_same e o (by omega), e (o + 1) (by omega) h]
end MJB29
