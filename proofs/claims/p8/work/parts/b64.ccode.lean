/-! ===== the class's code: where an order's instruction stands ===== -/
def lnJ (T : TT) (t : PT) (rs : List RcM) (z : PB) (tr : Bool) (k0 m k : Nat) : Nat := match jrun (EMx T t tr k0 m) ((osM rs z m).take k) (jmT T t.1 m) with
  | some x => x.2.length
  | none => 0
def pfC (T : TT) (t : PT) (rs : List RcM) (z : PB) (tr : Bool) (k0 : Nat) (cs : Nat → Nat) (m k : Nat) : Nat := cs m + lnJ T t rs z tr k0 m k
def psC (T : TT) (t : PT) (rs : List RcM) (z : PB) (tr : Bool) (k0 : Nat) (cs : Nat → Nat) (m : Nat) : Nat → Nat := psOf (EMx T t tr k0 m) (i0T t m) (cs m) (osM rs z m) (jmT T t.1 m)
/-- the code of every BLOCK, order by order -/
def CPC (T : TT) (t : PT) (rs : List RcM) (z : PB) (tr : Bool) (k0 q : Nat) (cs : Nat → Nat) (s : mjSt3) : Prop := ∃ sz, sz ≤ 3000 ∧ s.1 (q + 24) 3 = nI sz ∧ ∀ m, m ≤ 384 → isMT t.1 m = true → s.1 (q + 23) m = nI (cs m) ∧ (∀ k r j l, (osM rs z m)[k]? = some r → jrun (EMx T t tr k0 m) ((osM rs z m).take k) (jmT T t.1 m) = some (j, l) → ∃ j' l1, jrow (evP (EMx T t tr k0 m) (psC T t rs z tr k0 cs m)) r j = some (j', l1) ∧ CL q s (cs m + l.length) l1 ∧ cs m + l.length + l1.length ≤ sz ∧ lnJ T t rs z tr k0 m (k + 1) = l.length + l1.length) ∧ ∀ j l, jrun (EMx T t tr k0 m) (osM rs z m) (jmT T t.1 m) = some (j, l) → CL q s (cs m + l.length) [(0, 0, -1), (9, 0, -1)] ∧ cs m + l.length + 2 ≤ sz
section MJB64
variable {T : TT} {N k0 q c k m : Nat} {t : PT} {rs : List RcM} {z : PB} {tr : Bool} {s s' : mjSt3} {E : EV} {ps : Nat → Nat} {cs : Nat → Nat} {j : JS} {l a b d : List Ins} {r : Row}
theorem CL.sub (h : CL q s c (a ++ (b ++ d))) : CL q s (c + a.length) b := by
  intro i x hi
  have il := (List.getElem?_eq_some_iff.mp hi).1
  have := h (a.length + i) x (by rw [List.getElem?_append_right (by omega), show a.length + i - a.length = i by omega, List.getElem?_append_left il]; exact hi)
  rw [← Nat.add_assoc] at this
  exact this
theorem jal_run {os : List Row} {j0 : JS} (h : jrun E os j0 = some (j, l)) : ∃ l', jrun (evP E ps) os j0 = some (j, l') ∧ l'.length = l.length := by
  have al := jrun_al (E := E) (ps := ps) os j0
  rw [h] at al
  cases h1 : jrun (evP E ps) os j0 with
  | none => rw [h1] at al; exact al.elim
  | some x =>
    rw [h1] at al
    obtain ⟨x1, x2⟩ := x
    obtain ⟨e1, e2⟩ := al
    have e1' : x1 = j := e1
    rw [e1']
    exact ⟨x2, rfl, e2⟩
theorem CPC_of (P : PGc T N k0 q t rs z tr s) (hN : N ≤ 3000) : CPC T t rs z tr k0 q (fun m => nN (s.1 (q + 23) m)) s := by
  obtain ⟨_, sz, s1, s2, G⟩ := P
  refine ⟨sz, by omega, s2, fun m hm im => ?_⟩
  obtain ⟨c, j', l, h1, h2, h3, h4⟩ := G m (by omega) im
  have ec : nN (s.1 (q + 23) m) = c := by rw [h2, nN_nI (by omega)]
  have h1' : jrun (evP (EMx T t tr k0 m) (psC T t rs z tr k0 (fun m => nN (s.1 (q + 23) m)) m)) (osM rs z m) (jmT T t.1 m) = some (j', l) := by
    unfold psC
    dsimp only
    rw [ec]
    exact h1
  obtain ⟨E, hE⟩ : ∃ E, E = EMx T t tr k0 m := ⟨_, rfl⟩
  obtain ⟨ps, hps⟩ : ∃ ps, ps = psC T t rs z tr k0 (fun m => nN (s.1 (q + 23) m)) m := ⟨_, rfl⟩
  rw [← hE, ← hps] at h1'
  refine ⟨by dsimp only; rw [ec]; exact h2, fun k r j l0 hk ej => ?_, fun j l0 ej => ?_⟩
  · rw [← hE, ← hps]
    dsimp only
    rw [ec]
    rw [← hE] at ej
    have kl := (List.getElem?_eq_some_iff.mp hk).1
    have dr : (osM rs z m).drop k = r :: (osM rs z m).drop (k + 1) := by
      rw [List.drop_eq_getElem_cons kl]
      congr 1
      exact (List.getElem?_eq_some_iff.mp hk).2
    obtain ⟨lk, e1, e2⟩ := jal_run (ps := ps) ej
    have big : jrun (evP E ps) ((osM rs z m).take k ++ r :: (osM rs z m).drop (k + 1)) (jmT T t.1 m) = some (j', l) := by
      rw [← dr, List.take_append_drop]
      exact h1'
    rw [jrun_app, e1] at big
    dsimp only at big
    have unf : jrun (evP E ps) (r :: (osM rs z m).drop (k + 1)) j = match jrow (evP E ps) r j with
      | none => none
      | some (j1, c1) => match jrun (evP E ps) ((osM rs z m).drop (k + 1)) j1 with
        | none => none
        | some (j2, c2) => some (j2, c1 ++ c2) := rfl
    rw [unf] at big
    cases hr : jrow (evP E ps) r j with
    | none => rw [hr] at big; cases big
    | some y =>
      obtain ⟨j1, l1⟩ := y
      rw [hr] at big
      dsimp only at big
      cases hd : jrun (evP E ps) ((osM rs z m).drop (k + 1)) j1 with
      | none => rw [hd] at big; cases big
      | some y =>
        obtain ⟨j2, l2⟩ := y
        rw [hd] at big
        dsimp only at big
        have el : lk ++ (l1 ++ l2) = l := (Prod.mk.inj (Option.some.inj big)).2
        have ll : l.length = lk.length + (l1.length + l2.length) := by rw [← el, List.length_append, List.length_append]
        rw [← el] at h3
        refine ⟨j1, l1, rfl, ?_, by omega, ?_⟩
        · rw [← e2]
          refine CL.sub (d := l2 ++ [(0, 0, -1), (9, 0, -1)]) ?_
          rw [← List.append_assoc l1, ← List.append_assoc lk]
          exact h3
        · unfold lnJ
          rw [tk_succ hk, ← hE, jrun_app, ej]
          dsimp only
          rw [jrun_1]
          have al := jrow_al (E := E) (ps := ps) (r := r) (j := j)
          rw [hr] at al
          cases hr2 : jrow E r j with
          | none => rw [hr2] at al; exact al.elim
          | some y =>
            rw [hr2] at al
            dsimp only
            rw [List.length_append]
            have : l1.length = y.2.length := al.2
            omega
  · dsimp only
    rw [ec]
    rw [← hE] at ej
    obtain ⟨lk, e1, e2⟩ := jal_run (ps := ps) ej
    have el : lk = l := (Prod.mk.inj (Option.some.inj (e1.symm.trans h1'))).2
    have ll : l0.length = l.length := by rw [← e2, el]
    rw [ll]
    refine ⟨CL.sub (d := []) ?_, by omega⟩
    rw [List.append_nil]
    exact h3
theorem lnJ_of (h : jrun (EMx T t tr k0 m) ((osM rs z m).take k) (jmT T t.1 m) = some (j, l)) : lnJ T t rs z tr k0 m k = l.length := by unfold lnJ; rw [h]
theorem psC_of {x : Nat} (h : jrun (EMx T t tr k0 m) ((osM rs z m).take x) (jmT T t.1 m) = some (j, l)) : psC T t rs z tr k0 cs m (i0T t m + x) = pfC T t rs z tr k0 cs m x := by
  unfold psC psOf pfC
  rw [show i0T t m + x - i0T t m = x by omega, h, lnJ_of h]
theorem CPC.cg (C : CPC T t rs z tr k0 q cs s) (e : ∀ h, q + 23 ≤ h ∧ h ≤ q + 27 → s'.1 h = s.1 h) : CPC T t rs z tr k0 q cs s' := by
  obtain ⟨sz, s1, s2, G⟩ := C
  have ecl : ∀ c l, CL q s c l → CL q s' c l := fun c l h i x hi => by rw [e (q + 25) (by omega), e (q + 26) (by omega), e (q + 27) (by omega)]; exact h i x hi
  refine ⟨sz, s1, by rw [e (q + 24) (by omega)]; exact s2, fun m hm im => ?_⟩
  obtain ⟨g1, g2, g3⟩ := G m hm im
  refine ⟨by rw [e (q + 23) (by omega)]; exact g1, fun k r j l hk ej => ?_, fun j l ej => ⟨ecl _ _ (g3 j l ej).1, (g3 j l ej).2⟩⟩
  obtain ⟨j', l1, a1, a2, a3, a4⟩ := g2 k r j l hk ej
  exact ⟨j', l1, a1, ecl _ _ a2, a3, a4⟩
end MJB64
