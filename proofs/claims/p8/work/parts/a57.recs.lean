/-! ===== what was read of each MEMBER ===== -/
/-- orders from i on -/
def OT (ot : Nat → Row) (i : Nat) (l : List Row) : Prop := ∀ (j : Nat) (r : Row), l[j]? = some r → ot (i + j) = r
def AGf (ag : Nat → Int32) (l : List (Nat × Nat)) : Prop := ∀ e, e ∈ l → ag e.1 = nI e.2
/-- where PARAM i begins -/
def pos0 (c0 : Nat) (l : List (Nat × Nat × Int32)) (i : Nat) : Nat := match i with
  | 0 => c0
  | j + 1 => (match l[j]? with
    | some p => p.2.1 + 2
    | none => 0)
/-- PARAMS from c0 to en -/
def PLok (T : TT) (kt : Int32 → Nat) (c0 kq : Nat) (l : List (Nat × Nat × Int32)) (ks : List Nat) (en : Nat) : Prop := en = pos0 c0 l l.length ∧ c0 ≤ en ∧ l.length ≤ 6 ∧ 4 * ks.length + c0 ≤ en ∧ ∀ (i : Nat) (p : Nat × Nat × Int32), l[i]? = some p → pType T p.1 = .inr p.2.1 ∧ (T p.2.1).1 = 3 ∧ p.1 = pos0 c0 l i ∧ p.1 < p.2.1 ∧ p.2.1 + 2 ≤ en ∧ ∃ kk, kq ≤ kk ∧ kk ≤ kq + ks.length ∧ p.2.2 = tyK T p.1 kk ∧ KT kt kk (tyL T p.1)
/-- a MEMBER as it was read, to behind it; its first KIND is kq -/
def MOK (T : TT) (M : Nat) (kt : Int32 → Nat) (ot : Nat → Row) (ag : Nat → Int32) (k0 : Nat) (md : MD) (en kq : Nat) (ps : PP) (z : PB) : Prop := pType T md.1 = .inr md.2.1 ∧ (T md.2.1).1 = 3 ∧ md.2.2.2.2.2.2.2 = tyK T md.1 kq ∧ KT kt kq (tyL T md.1) ∧ md.1 < md.2.1 ∧ md.2.1 + 2 ≤ en ∧ (k0 ≤ kq ∧ 4 * kq ≤ 4 * k0 + md.1) ∧
  ((md.2.2.1 = false ∧ md.2.2.2.1 = [] ∧ en = md.2.1 + 2 ∧ (T (md.2.1 + 1)).1 = 59) ∨
   (md.2.2.1 = true ∧ md.2.2.2.2.2.2.1 ≤ 2 * md.1 ∧ (T (md.2.1 + 1)).1 = 40 ∧ md.2.2.2.1 = ps.2.1 ∧ md.2.2.2.2.1 = ps.1 ∧ (ps.1 = md.2.1 + 3 ∧ ps.2.1 = [] ∨ PLok T kt (md.2.1 + 2) (kq + (tyL T md.1).length) ps.2.1 ps.2.2 ps.1) ∧ ps.2.1.length ≤ 6 ∧ KT kt (kq + (tyL T md.1).length) ps.2.2 ∧ prS T M 30 0 1 ps.1 ps.2.1.length (kq + (tyL T md.1).length + ps.2.2.length) md.2.2.2.2.2.2.1 = .inr z ∧ z.1 = en ∧ z.2.1 = md.2.2.2.2.2.1 ∧ KT kt (kq + (tyL T md.1).length + ps.2.2.length) z.2.2.1 ∧ OT ot md.2.2.2.2.2.2.1 (z.2.2.2.1 ++ [oOver]) ∧ AGf ag z.2.2.2.2 ∧ md.2.1 + 3 ≤ ps.1 ∧ 4 * (kq + (tyL T md.1).length + ps.2.2.length) ≤ 4 * k0 + ps.1))
/-- an int as a number; the KINDS of a list from kq on -/
def nN (a : Int32) : Nat := a.toNatClampNeg
def ktL (kq : Nat) (l : List Nat) (a : Int32) : Nat := (l[nN a - kq]?).getD 0
abbrev RcM : Type := MD × Nat × Nat × PP × PB
def CHm (T : TT) (M : Nat) (kt : Int32 → Nat) (ot : Nat → Row) (ag : Nat → Int32) (k0 : Nat) : Nat → List RcM → Nat → Prop
  | p, [], p' => p ≤ p'
  | p, r :: l, p' => p ≤ r.1.1 ∧ MOK T M kt ot ag k0 r.1 r.2.1 r.2.2.1 r.2.2.2.1 r.2.2.2.2 ∧ CHm T M kt ot ag k0 r.2.1 l p'
section MJA57
variable {T : TT} {M N k0 : Nat} {kt : Int32 → Nat} {ot : Nat → Row} {ag : Nat → Int32}
theorem OT.app {i : Nat} {a b : List Row} (h : OT ot i (a ++ b)) : OT ot i a ∧ OT ot (i + a.length) b := by
  refine ⟨fun j r hj => h j r (by rw [List.getElem?_append_left (List.getElem?_eq_some_iff.mp hj).1]; exact hj), fun j r hj => ?_⟩
  rw [Nat.add_assoc]
  exact h (a.length + j) r (by rw [List.getElem?_append_right (by omega), show a.length + j - a.length = j by omega]; exact hj)
theorem AGf.app {a b : List (Nat × Nat)} (h : AGf ag (a ++ b)) : AGf ag a ∧ AGf ag b := ⟨fun e he => h e (List.mem_append_left _ he), fun e he => h e (List.mem_append_right _ he)⟩
theorem pType_S {c c' : Nat} (h : pType T c = .inr c') : tyS (T c).1 = true := by
  unfold pType at h
  by_cases a : (T c).1 = 10
  · unfold tyS; rw [a]; decide
  · rw [if_neg a] at h
    unfold pKind at h
    by_cases b : (T c).1 = 2
    · unfold tyS; rw [b]; decide
    · rw [if_neg b] at h; cases h
theorem pos0_app {c0 i : Nat} {l m : List (Nat × Nat × Int32)} (h : i ≤ l.length) : pos0 c0 (l ++ m) i = pos0 c0 l i := by
  cases i with
  | zero => rfl
  | succ j =>
    show (match (l ++ m)[j]? with
      | some p => p.2.1 + 2
      | none => 0) = _
    rw [List.getElem?_append_left (by omega)]
    rfl
theorem PLok.snoc {c0 kq en t a : Nat} {l : List (Nat × Nat × Int32)} {ks : List Nat} (h : PLok T kt c0 kq l ks en) (hl : l.length < 6) (ht : t = en) (hp : pType T t = .inr a) (h3 : (T a).1 = 3) (hK : KT kt (kq + ks.length) (tyL T t)) : PLok T kt c0 kq (l ++ [(t, a, tyK T t (kq + ks.length))]) (ks ++ tyL T t) (a + 2) := by
  obtain ⟨e1, e2, e3, e4, e5⟩ := h
  have l1 := pType_len hp
  have tl : 4 * (tyL T t).length ≤ a - t := by
    unfold tyL
    by_cases g : (T t).1 = 10
    · rw [if_pos g]; show 4 * 0 ≤ _; omega
    · rw [if_neg g]
      have := l1.2 g
      show 4 * 1 ≤ _
      omega
  refine ⟨?_, by omega, by rw [List.length_append, List.length_singleton]; omega, by rw [List.length_append]; omega, fun i p hi => ?_⟩
  · rw [List.length_append, List.length_singleton]
    show _ = (match (l ++ [(t, a, tyK T t (kq + ks.length))])[l.length]? with
      | some p => p.2.1 + 2
      | none => 0)
    rw [List.getElem?_append_right (Nat.le_refl _), Nat.sub_self]
    rfl
  · by_cases g : i < l.length
    · rw [List.getElem?_append_left g] at hi
      obtain ⟨b1, b2, b3, b4, b5, kk, k1, k2, k3, k4⟩ := e5 i p hi
      exact ⟨b1, b2, by rw [pos0_app (by omega)]; exact b3, b4, by omega, kk, k1, by rw [List.length_append]; omega, k3, k4⟩
    · have hi' := (List.getElem?_eq_some_iff.mp hi).1
      rw [List.length_append, List.length_singleton] at hi'
      have ei : i = l.length := by omega
      subst ei
      rw [List.getElem?_append_right (Nat.le_refl _), Nat.sub_self] at hi
      have ep : (t, a, tyK T t (kq + ks.length)) = p := by simpa using hi
      subst ep
      refine ⟨hp, h3, ?_, by show t < a; omega, Nat.le_refl _, kq + ks.length, by omega, by rw [List.length_append]; omega, rfl, hK⟩
      rw [pos0_app (Nat.le_refl _)]
      show t = _
      rw [ht, e1]
theorem pPars_ok {c0 kq : Nat} : ∀ (f : Nat) (z y : PP), pPars T kq f z = .inr y → (∀ kt, KT kt kq z.2.2 → PLok T kt c0 kq z.2.1 z.2.2 z.1) → ∀ kt, KT kt kq y.2.2 → PLok T kt c0 kq y.2.1 y.2.2 y.1
  | 0, z, y, h, _, _, _ => by cases h
  | f + 1, z, y, h, hz, kt, hk => by
    unfold pPars at h
    by_cases g : tyS (T z.1).1 = true ∧ z.2.1.length = 6
    · rw [if_pos g] at h; cases h
    rw [if_neg g] at h
    cases hp : pType T z.1 with
    | inl e => rw [hp] at h; cases h
    | inr a =>
      rw [hp] at h
      dsimp only at h
      have hS := pType_S hp
      by_cases g3 : (T a).1 = 3
      · rw [if_pos g3] at h
        have nx : ∀ kt, KT kt kq (z.2.2 ++ tyL T z.1) → PLok T kt c0 kq (z.2.1 ++ [(z.1, a, tyK T z.1 (kq + z.2.2.length))]) (z.2.2 ++ tyL T z.1) (a + 2) := by
          intro kt hk
          have k2 := KT.app hk
          have h0 := hz kt k2.1
          have l6 : ¬ z.2.1.length = 6 := fun e => g ⟨hS, e⟩
          have := h0.2.2.1
          exact h0.snoc (by omega) rfl hp g3 k2.2
        by_cases g44 : (T (a + 1)).1 = 44
        · rw [if_pos g44] at h
          exact pPars_ok f _ y h nx kt hk
        · rw [if_neg g44] at h
          by_cases g41 : (T (a + 1)).1 = 41
          · rw [if_pos g41] at h
            cases h
            exact nx kt hk
          · rw [if_neg g41] at h; cases h
      · rw [if_neg g3] at h; cases h
theorem tyL_len {t c' : Nat} (h : pType T t = .inr c') : 4 * (tyL T t).length ≤ c' - t := by
  have l1 := pType_len h
  unfold tyL
  by_cases g : (T t).1 = 10
  · rw [if_pos g]; show 4 * 0 ≤ _; omega
  · rw [if_neg g]
    have := l1.2 g
    show 4 * 1 ≤ _
    omega
/-- some kt for any KINDS -/
theorem nN_nI {m : Nat} (h : m < 2147483648) : nN (nI m) = m := nI_clamp h
theorem KT_ex (kq : Nat) (l : List Nat) (h : kq + l.length ≤ 100000) : KT (ktL kq l) kq l := by
  intro j t hj
  have := (List.getElem?_eq_some_iff.mp hj).1
  unfold ktL
  rw [nN_nI (by omega), show kq + j - kq = j by omega, hj]
  rfl
theorem pMem_ok {k c kq i0 : Nat} {r : PR} (h : pMem T M k c kq i0 = .inr r) (h1 : k0 ≤ kq ∧ 4 * kq ≤ 4 * k0 + c) (h2 : i0 ≤ 2 * c) (hkb : kq ≤ 10000 ∧ k0 ≤ 1000) (hcb : r.1 ≤ 3000) : r.2.1.1 = c ∧ c + 2 < r.1 ∧ ¬ k = 24 ∧ agR c r.1 r.2.2.2.2 ∧ 4 * r.2.2.1.length ≤ r.1 - c ∧ r.2.2.2.1.length ≤ 2 * (r.1 - c) ∧ ∃ (ps : PP) (zb : PB), ∀ kt ot ag, KT kt kq r.2.2.1 → OT ot i0 r.2.2.2.1 → AGf ag r.2.2.2.2 → MOK T M kt ot ag k0 r.2.1 r.1 kq ps zb := by
  unfold pMem at h
  by_cases e24 : k = 24
  · rw [if_pos e24] at h; cases h
  rw [if_neg e24] at h
  cases hp : pType T c with
  | inl e => rw [hp] at h; cases h
  | inr c1 =>
    rw [hp] at h
    dsimp only at h
    have l1 := (pType_len hp).1
    have tl := tyL_len hp
    by_cases g3 : (T c1).1 = 3
    · rw [if_pos g3] at h
      by_cases g59 : (T (c1 + 1)).1 = 59
      · rw [if_pos g59] at h
        cases h
        refine ⟨rfl, by show c + 2 < c1 + 2; omega, e24, agR.nil, by show 4 * (tyL T c).length ≤ c1 + 2 - c; omega, by show 0 ≤ _; omega, (0, [], []), (0, 0, [], [], []), fun kt ot ag hk ho ha => ?_⟩
        exact ⟨hp, g3, rfl, hk, by show c < c1; omega, Nat.le_refl _, h1, Or.inl ⟨rfl, rfl, rfl, g59⟩⟩
      · rw [if_neg g59] at h
        cases hq : pParams T (kq + (tyL T c).length) (c1 + 1) with
        | inl e => rw [hq] at h; cases h
        | inr y =>
          rw [hq] at h
          dsimp only at h
          cases hz : prS T M 30 0 1 y.1 y.2.1.length (kq + (tyL T c).length + y.2.2.length) i0 with
          | inl e => rw [hz] at h; cases h
          | inr z =>
            rw [hz] at h
            cases h
            obtain ⟨s1, s2, s3, s4⟩ := prS_ln 30 0 1 _ _ _ _ z (by omega) hz
            have hcb' : z.1 ≤ 3000 := hcb
            have P : (T (c1 + 1)).1 = 40 ∧ c1 + 3 ≤ y.1 ∧ 4 * y.2.2.length + c1 + 2 ≤ y.1 ∧ y.2.1.length ≤ 6 ∧ ∀ kt, KT kt (kq + (tyL T c).length) y.2.2 → (y.1 = c1 + 3 ∧ y.2.1 = [] ∨ PLok T kt (c1 + 2) (kq + (tyL T c).length) y.2.1 y.2.2 y.1) := by
              unfold pParams at hq
              by_cases g40 : (T (c1 + 1)).1 = 40
              · rw [if_pos g40] at hq
                by_cases g41 : (T (c1 + 1 + 1)).1 = 41
                · rw [if_pos g41] at hq
                  cases hq
                  exact ⟨g40, by show c1 + 3 ≤ c1 + 1 + 2; omega, by show 4 * 0 + c1 + 2 ≤ c1 + 1 + 2; omega, by show 0 ≤ 6; omega, fun kt _ => Or.inl ⟨rfl, rfl⟩⟩
                · rw [if_neg g41] at hq
                  have pl := pPars_len 7 _ y hq
                  dsimp only at pl
                  have A := pPars_ok (c0 := c1 + 2) 7 (c1 + 1 + 1, [], []) y hq (fun kt _ => ⟨rfl, Nat.le_refl _, by show 0 ≤ 6; omega, by show 4 * 0 + (c1 + 2) ≤ c1 + 1 + 1; omega, fun i p hi => by cases hi⟩)
                  have A0 := A _ (KT_ex (kq + (tyL T c).length) y.2.2 (by
                    have : ([] : List Nat).length = 0 := rfl
                    omega))
                  have ne : ¬ y.2.1 = [] := by
                    intro e
                    have e1 := A0.1
                    rw [e] at e1
                    have e2 : y.1 = c1 + 2 := e1
                    unfold pPars at hq
                    by_cases gg : tyS (T (c1 + 1 + 1)).1 = true ∧ ([] : List (Nat × Nat × Int32)).length = 6
                    · exact absurd gg.2 (by decide)
                    · rw [if_neg gg] at hq
                      dsimp only at hq
                      cases hp2 : pType T (c1 + 1 + 1) with
                      | inl e => rw [hp2] at hq; cases hq
                      | inr a =>
                        rw [hp2] at hq
                        dsimp only at hq
                        have l2 := (pType_len hp2).1
                        by_cases g3 : (T a).1 = 3
                        · rw [if_pos g3] at hq
                          by_cases g44 : (T (a + 1)).1 = 44
                          · rw [if_pos g44] at hq
                            have := pPars_len 6 _ y hq
                            have z0 := A0.2.2.2.1
                            dsimp only at this
                            have q1 : (([] : List Nat) ++ tyL T (c1 + 1 + 1)).length = (tyL T (c1 + 1 + 1)).length := rfl
                            have q2 := tyL_len hp2
                            omega
                          · rw [if_neg g44] at hq
                            by_cases g41 : (T (a + 1)).1 = 41
                            · rw [if_pos g41] at hq
                              cases hq
                              cases e
                            · rw [if_neg g41] at hq; cases hq
                        · rw [if_neg g3] at hq; cases hq
                  have nz : 0 < y.2.1.length := List.length_pos_iff.mpr ne
                  obtain ⟨p0, hp0⟩ : ∃ p, y.2.1[0]? = some p := ⟨_, List.getElem?_eq_getElem nz⟩
                  obtain ⟨_, _, w3, w4, w5, _⟩ := A0.2.2.2.2 0 p0 hp0
                  have w6 : p0.1 = c1 + 2 := w3
                  exact ⟨g40, by omega, by have := A0.2.2.2.1; omega, A0.2.2.1, fun kt hk => Or.inr (A kt hk)⟩
              · rw [if_neg g40] at hq; cases hq
            obtain ⟨g40, y1, y2, y3, y4⟩ := P
            refine ⟨rfl, by show c + 2 < z.1; omega, e24, s2.mono (by omega) (Nat.le_refl _), ?_, ?_, y, z, fun kt ot ag hk ho ha => ?_⟩
            · simp only [List.length_append]; omega
            · simp only [List.length_append, List.length_singleton]; omega
            · have k1 := KT.app hk
              have k2 := KT.app k1.1
              refine ⟨hp, g3, rfl, k2.1, by show c < c1; omega, by show c1 + 2 ≤ z.1; omega, h1, Or.inr ⟨rfl, h2, g40, rfl, rfl, y4 kt k2.2, y3, k2.2, hz, rfl, rfl, ?_, ho, ha, by show c1 + 3 ≤ y.1; omega, ?_⟩⟩
              · have := k1.2
                rw [List.length_append, ← Nat.add_assoc] at this
                exact this
              · show 4 * (kq + (tyL T c).length + y.2.2.length) ≤ 4 * k0 + y.1
                omega
    · rw [if_neg g3] at h; cases h
theorem CHm.le : ∀ {l : List RcM} {p p' : Nat}, CHm T M kt ot ag k0 p l p' → p ≤ p'
  | [], _, _, h => h
  | r :: l, p, p', h => by
    have a := CHm.le h.2.2
    have b := h.2.1.2.2.2.2.1
    have c := h.2.1.2.2.2.2.2.1
    have := h.1
    omega
theorem CHm.lo {l : List RcM} {p0 p p' : Nat} (h : CHm T M kt ot ag k0 p l p') (h0 : p0 ≤ p) : CHm T M kt ot ag k0 p0 l p' := by
  cases l with
  | nil => exact Nat.le_trans h0 h
  | cons r l => exact ⟨Nat.le_trans h0 h.1, h.2⟩
theorem CHm.app : ∀ {l m : List RcM} {p p1 p2 : Nat}, CHm T M kt ot ag k0 p l p1 → CHm T M kt ot ag k0 p1 m p2 → CHm T M kt ot ag k0 p (l ++ m) p2
  | [], m, p, p1, p2, h, g => CHm.lo g h
  | r :: l, m, p, p1, p2, h, g => ⟨h.1, h.2.1, CHm.app h.2.2 g⟩
theorem CHm.at : ∀ {l : List RcM} {p p' i : Nat} {r : RcM}, CHm T M kt ot ag k0 p l p' → l[i]? = some r → MOK T M kt ot ag k0 r.1 r.2.1 r.2.2.1 r.2.2.2.1 r.2.2.2.2 ∧ p ≤ r.1.1 ∧ r.2.1 ≤ p'
  | [], _, _, _, _, _, h => by cases h
  | x :: l, p, p', 0, r, h, hi => by
    cases hi
    exact ⟨h.2.1, h.1, CHm.le h.2.2⟩
  | x :: l, p, p', i + 1, r, h, hi => by
    have hi' : l[i]? = some r := hi
    obtain ⟨a, b, c⟩ := CHm.at h.2.2 hi'
    have d := h.2.1.2.2.2.2.1
    have e := h.2.1.2.2.2.2.2.1
    have := h.1
    exact ⟨a, by omega, c⟩
theorem CHm.lt : ∀ {l : List RcM} {p p' i j : Nat} {r r' : RcM}, CHm T M kt ot ag k0 p l p' → i < j → l[i]? = some r → l[j]? = some r' → r.2.1 ≤ r'.1.1
  | [], _, _, _, _, _, _, _, _, h, _ => by cases h
  | x :: l, p, p', 0, 0, r, r', h, hij, hi, hj => by omega
  | x :: l, p, p', i + 1, 0, r, r', h, hij, hi, hj => by omega
  | x :: l, p, p', 0, j + 1, r, r', h, hij, hi, hj => by
    cases hi
    have hj' : l[j]? = some r' := hj
    exact (CHm.at h.2.2 hj').2.1
  | x :: l, p, p', i + 1, j + 1, r, r', h, hij, hi, hj => by
    have hi' : l[i]? = some r := hi
    have hj' : l[j]? = some r' := hj
    exact CHm.lt h.2.2 (show i < j by omega) hi' hj'
end MJA57
