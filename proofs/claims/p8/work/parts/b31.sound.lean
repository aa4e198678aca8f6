/-! ===== a RUN's values keep their TYPES ===== -/
def PRX (T : TT) (N k0 : Nat) (t : PT) (rs : List RcM) (kb : Nat) (z : PB) (tr : Bool) : Prop := PRG T N k0 t rs kb z tr ∧ nMem t.1 ≤ 384 ∧ ∀ m, m ≤ 384 → isMT t.1 m = true → i0T t m + (osM rs z m).length < 5000
section MJB31
variable {T : TT} {N k0 kb wm cm m k : Nat} {L : List CD} {t : PT} {rs : List RcM} {z : PB} {tr : Bool} {H H' : HEAP} {r : Row} {j : JS} {l : List Ins} {f : FRM} {fs : List FRM} {st : List Int32} {sc : SCL}
theorem tk_succ {os : List Row} (h : os[k]? = some r) : os.take (k + 1) = os.take k ++ [r] := by
  rw [List.take_succ, h]
  rfl
theorem PRX.step (P : PRX T N k0 t rs kb z tr) (hm : m ≤ 384) (im : isMT t.1 m = true) (hk : (osM rs z m)[k]? = some r) (ej : jrun (EMx T t tr k0 m) ((osM rs z m).take k) (jmT T t.1 m) = some (j, l)) : ∃ j' l1, jrow (EMx T t tr k0 m) r j = some (j', l1) ∧ jrun (EMx T t tr k0 m) ((osM rs z m).take (k + 1)) (jmT T t.1 m) = some (j', l ++ l1) ∧ okG r (fdG ((osM rs z m).take k) []) ∧ JOK T t.1 (vtX T t rs z tr k0 m) j (fdG ((osM rs z m).take k) []) ∧ JOK T t.1 (vtX T t rs z tr k0 m) j' (fdG ((osM rs z m).take (k + 1)) []) := by
  have kl := (List.getElem?_eq_some_iff.mp hk).1
  obtain ⟨j1, l1, a1, a2, a3, a4, a5⟩ := P.1.pos hm im (show k ≤ _ by omega)
  obtain ⟨j2, l2, b1, b2', b3, b4, b5⟩ := P.1.pos hm im (show k + 1 ≤ (osM rs z m).length by omega)
  have e1 : (j1, l1) = (j, l) := Option.some.inj (a1.symm.trans ej)
  rw [Prod.mk.injEq] at e1
  rw [e1.1] at a2
  have tk := tk_succ hk
  have b1' := b1
  have ej' : jrun (EmT T t.1 tr (ktL k0 t.2.2.1) m) ((osM rs z m).take k) (jmT T t.1 m) = some (j, l) := ej
  rw [tk, jrun_app, ej'] at b1'
  dsimp only at b1'
  rw [jrun_1] at b1'
  have dr : (osM rs z m).drop k = r :: (osM rs z m).drop (k + 1) := by
    rw [List.drop_eq_getElem_cons kl]
    congr 1
    exact (List.getElem?_eq_some_iff.mp hk).2
  rw [dr] at a5
  cases hj : jrow (EmT T t.1 tr (ktL k0 t.2.2.1) m) r j with
  | none =>
    rw [hj] at b1'
    cases b1'
  | some y =>
    rw [hj] at b1'
    dsimp only at b1'
    have e3 : (y.1, l ++ y.2) = (j2, l2) := Option.some.inj b1'
    rw [Prod.mk.injEq] at e3
    rw [← e3.1, ← e3.2] at b1
    rw [← e3.1] at b2'
    exact ⟨y.1, y.2, hj, b1, a5.1, a2, b2'⟩
/-- where nothing waits -/
theorem PRX.at0 (P : PRX T N k0 t rs kb z tr) (hm : m ≤ 384) (im : isMT t.1 m = true) (hk : k ≤ (osM rs z m).length) (h0 : fdG ((osM rs z m).take k) [] = []) : ∃ j l, jrun (EMx T t tr k0 m) ((osM rs z m).take k) (jmT T t.1 m) = some (j, l) ∧ jRS j = [] := by
  obtain ⟨j1, l1, a1, a2, a3, a4, a5⟩ := P.1.pos hm im hk
  have R := a2.1
  rw [h0] at R
  exact ⟨j1, l1, a1, R.2.2⟩
theorem okG_2 {G : GS} (ok : okG r G) (h : r.1 = 2) : G = [] := by
  rcases ok with o | ⟨o, _⟩ | ⟨o, _⟩ | ⟨o, _⟩ | ⟨o, _⟩ | ⟨o, _⟩ | ⟨o, _⟩ | ⟨o, _⟩ | ⟨o, _⟩ | ⟨o, _⟩ | ⟨o, _⟩ | ⟨o, eG⟩
  · rw [h] at o; exact absurd o (by decide)
  · rw [h] at o; exact absurd o (by decide)
  · rw [h] at o; exact absurd o (by decide)
  · rw [h] at o; exact absurd o (by decide)
  · rw [h] at o; exact absurd o (by decide)
  · rw [h] at o; exact absurd o (by decide)
  · rw [h] at o; exact absurd o (by decide)
  · rw [h] at o; exact absurd o (by decide)
  · rw [h] at o; exact absurd o (by decide)
  · rw [h] at o; exact absurd o (by decide)
  · rcases o with o | o | o | o | o
    · rw [h] at o; exact absurd o (by decide)
    · rw [h] at o; exact absurd o (by decide)
    · rw [h] at o; exact absurd o (by decide)
    · rw [h] at o; exact absurd o (by decide)
    · have := o.1; rw [h] at this; exact absurd this (by decide)
  · exact eG
/-- where a jump goes -/
theorem PRX.jump (P : PRX T N k0 t rs kb z tr) (hm : m ≤ 384) (im : isMT t.1 m = true) (hk : (osM rs z m)[k]? = some r) (hr : r.1 = 21 ∨ r.1 = 22 ∨ r.1 = 23) : ∃ x, x ≤ (osM rs z m).length ∧ r.2.2.1 = nI (i0T t m + x) ∧ nN r.2.2.1 - i0T t m = x ∧ (∃ jx lx, jrun (EMx T t tr k0 m) ((osM rs z m).take x) (jmT T t.1 m) = some (jx, lx) ∧ jRS jx = []) ∧ ((¬ r.1 = 23 ∧ k < x) ∨ (r.1 = 23 ∧ x ≤ k ∧ ∃ r', (osM rs z m)[x]? = some r' ∧ r'.1 = 2)) := by
  obtain ⟨⟨g1, g2, g3⟩, _⟩ := P.1.2.2 m hm im
  have i5 := P.2.2 m hm im
  obtain ⟨q1, q2⟩ := g3 k r hk
  have fin : ∀ x, x ≤ (osM rs z m).length → r.2.2.1 = nI (i0T t m + x) → nN r.2.2.1 - i0T t m = x := by
    intro x h1 h2
    rw [h2, nN_nI (by omega)]
    omega
  by_cases h23 : r.1 = 23
  · obtain ⟨x, r', x1, x2, x3, x4⟩ := q2 h23
    have xl := (List.getElem?_eq_some_iff.mp x2).1
    have G0 : fdG ((osM rs z m).take x) [] = [] := by
      have s := g1
      rw [(List.take_append_drop x (osM rs z m)).symm, sdG_app] at s
      have dr : (osM rs z m).drop x = r' :: (osM rs z m).drop (x + 1) := by
        rw [List.drop_eq_getElem_cons xl]
        congr 1
        exact (List.getElem?_eq_some_iff.mp x2).2
      rw [dr] at s
      exact okG_2 s.2.1 x3
    exact ⟨x, by omega, x4, fin x (by omega) x4, P.at0 hm im (by omega) G0, Or.inr ⟨h23, by omega, r', x2, x3⟩⟩
  · obtain ⟨x, x1, x2, x3, x4⟩ := q1 (by rcases hr with h | h | h; exact Or.inl h; exact Or.inr h; exact absurd h h23)
    exact ⟨x, x2, x3, fin x x2 x3, P.at0 hm im x2 x4, Or.inl ⟨h23, by omega⟩⟩
theorem AOK.fail (h1 : HOK T t.1 H) (h2 : bsH T t.1 H H.1 ≤ wm) {n p : Int32} : AOK T t rs z tr k0 wm cm (aFail (H, f :: fs, k, st, sc) n p) := ⟨h1, h2, Nat.zero_le _, fun h => by have : (3 : Nat) = 1 := h; omega, fun _ => rfl⟩
/-- one order further -/
theorem RUNOK.adv {f' : FRM} {seg' rest : List Int32} {j' : JS} {l' : List Ins} (hk : k ≤ (osM rs z f.1).length) (ej : jrun (EMx T t tr k0 f.1) ((osM rs z f.1).take k) (jmT T t.1 f.1) = some (j', l')) (F : FOK T t rs z tr k0 H' f') (e1 : f'.1 = f.1) (e2 : f'.2.2.2.2 = f.2.2.2.2) (ty : TYS T t.1 H' seg' (jRS j')) (x : HX H H') (S : SUS T t rs z tr k0 H fs f.1 f.2.2.2.2 rest) : RUNOK T t rs z tr k0 (H', f' :: fs, k, seg' ++ rest, sc) := by
  refine ⟨f', fs, rfl, F, ?_, j', l', seg', rest, ?_, ty, rfl, ?_⟩
  · rw [e1]; exact hk
  · rw [e1]; exact ej
  · rw [e1, e2]; exact SUS.ext x _ _ _ _ S
/-- return -/
theorem AOK.ret (hH : HOK T t.1 H) (hb : bsH T t.1 H H.1 ≤ wm) (hl : (f :: fs).length ≤ cm) (ph : sc.2.2.2.2.1 = 1) {rest : List Int32} {v : Int32} (S : SUS T t rs z tr k0 H fs f.1 f.2.2.2.2 rest) (hv : f.1 < nMem t.1 → vOK T t.1 H (tyM T t.1 f.1) v) : AOK T t rs z tr k0 wm cm (aRet (H, f :: fs, k, rest, sc) f fs v) := by
  cases fs with
  | nil => exact ⟨hH, hb, Nat.zero_le _, fun h => by have : (2 : Nat) = 1 := h; omega, fun _ => rfl⟩
  | cons g gs =>
    obtain ⟨s0, s1, s2, j2, l2, x, xs, seg2, rest2, s3, s4, s5, s6, s7, s8⟩ := S
    refine ⟨hH, hb, ?_, fun _ => ⟨g, gs, rfl, s1, s2, j2, l2, v :: seg2, rest2, s3, ?_, ?_, s8⟩, fun h => absurd ph h⟩
    · have : (g :: gs).length + 1 ≤ cm := hl
      show (g :: gs).length ≤ cm
      omega
    · rw [s4]
      exact ⟨(hv s0).cls s5.symm, s6⟩
    · show v :: rest = (v :: seg2) ++ rest2
      rw [s7]
      rfl
end MJB31
