/-! ===== the ARGUMENTS that are read: each ( stands once ===== -/
def agR (a b : Nat) (l : List (Nat × Nat)) : Prop := (∀ e, e ∈ l → a ≤ e.1 ∧ e.1 < b) ∧ l.Pairwise (fun x y => ¬ x.1 = y.1)
section MJA56
variable {T : TT} {M : Nat}
theorem agR.nil {a b : Nat} : agR a b [] := ⟨fun e h => (by cases h), List.Pairwise.nil⟩
theorem agR.mono {a b a' b' : Nat} {l : List (Nat × Nat)} (h : agR a b l) (h1 : a' ≤ a) (h2 : b ≤ b') : agR a' b' l := ⟨fun e he => by have := h.1 e he; omega, h.2⟩
theorem agR.app {a b b' c : Nat} {l m : List (Nat × Nat)} (h : agR a b l) (g : agR b' c m) (h1 : b ≤ b') (h2 : b ≤ c) (h3 : a ≤ b') : agR a c (l ++ m) := by
  refine ⟨fun e he => ?_, List.pairwise_append.mpr ⟨h.2, g.2, fun x hx y hy e => ?_⟩⟩
  · rcases List.mem_append.mp he with k | k
    · have := h.1 e k; omega
    · have := g.1 e k; omega
  · have a1 := h.1 x hx
    have a2 := g.1 y hy
    omega
theorem rAg_o : ∀ (l : List (Nat × Nat)) (ag : Nat → Int32) (t : Nat), (∀ e, e ∈ l → ¬ e.1 = t) → rAg l ag t = ag t
  | [], _, _, _ => rfl
  | e :: l, ag, t, h => by
    show rAg l (upd ag e.1 (nI e.2)) t = ag t
    rw [rAg_o l _ t (fun x hx => h x (List.mem_cons_of_mem _ hx)), upd_g, if_neg (fun x => h e List.mem_cons_self x.symm)]
theorem rAg_m : ∀ (l : List (Nat × Nat)) (ag : Nat → Int32), l.Pairwise (fun x y => ¬ x.1 = y.1) → ∀ e, e ∈ l → rAg l ag e.1 = nI e.2
  | [], _, _, e, h => by cases h
  | x :: l, ag, p, e, h => by
    show rAg l (upd ag x.1 (nI x.2)) e.1 = nI e.2
    have p' := List.pairwise_cons.mp p
    rcases List.mem_cons.mp h with k | k
    · subst k
      rw [rAg_o l _ e.1 (fun y hy z => p'.1 y hy z.symm), upd_g, if_pos rfl]
    · exact rAg_m l _ p'.2 e k
theorem pLoop_ag {sg : Int32 → Bool} {rd : Nat → Nat → PX} {kq c : Nat} (hr : ∀ c kq y, rd c kq = .inr y → c < y.1 ∧ agR c y.1 y.2.2.2.2) : ∀ (k : Nat) (z y : PZ), c ≤ z.1 → agR c z.1 z.2.2.2.2 → pLoop T sg rd kq k z = .inr y → agR c y.1 y.2.2.2.2
  | 0, z, y, hc, hz, h => by cases h; exact hz
  | k + 1, z, y, hc, hz, h => by
    unfold pLoop at h
    by_cases g : sg (T z.1).1 = true
    · rw [if_pos g] at h
      cases hd : rd (z.1 + 1) (kq + z.2.2.1.length) with
      | inl e => rw [hd] at h; cases h
      | inr w =>
        rw [hd] at h
        obtain ⟨w1, w2⟩ := hr _ _ _ hd
        refine pLoop_ag hr k _ y ?_ ?_ h
        · show c ≤ w.1; omega
        · exact hz.app w2 (by omega) (by show z.1 ≤ w.1; omega) (by omega)
    · rw [if_neg g] at h
      cases h
      exact hz
theorem pPost_ag {ra : Nat → Nat → PX} {kq c : Nat} (hr : ∀ c kq y, ra c kq = .inr y → c < y.1 ∧ agR c y.1 y.2.2.2.2) : ∀ (k : Nat) (z y : PZ), c ≤ z.1 → agR c z.1 z.2.2.2.2 → pPost T ra kq k z = .inr y → agR c y.1 y.2.2.2.2
  | 0, z, y, hc, hz, h => by cases h; exact hz
  | k + 1, z, y, hc, hz, h => by
    unfold pPost at h
    by_cases g : (T z.1).1 = 20
    · rw [if_pos g] at h
      cases hd : pKind T (z.1 + 1) with
      | inl e => rw [hd] at h; cases h
      | inr c' =>
        rw [hd] at h
        have hw := pKind_len hd
        refine pPost_ag hr k _ y ?_ ?_ h
        · show c ≤ c'; omega
        · exact hz.mono (Nat.le_refl _) (by show z.1 ≤ c'; omega)
    · rw [if_neg g] at h
      by_cases g2 : (T z.1).1 = 46
      · rw [if_pos g2] at h
        by_cases g3 : (T (z.1 + 1)).1 = 3
        · rw [if_pos g3] at h
          by_cases g4 : (T (z.1 + 2)).1 = 40
          · rw [if_pos g4] at h
            cases hd : ra (z.1 + 2) (kq + z.2.2.1.length) with
            | inl e => rw [hd] at h; cases h
            | inr w =>
              rw [hd] at h
              obtain ⟨w1, w2⟩ := hr _ _ _ hd
              refine pPost_ag hr k _ y ?_ ?_ h
              · show c ≤ w.1; omega
              · exact hz.app w2 (by omega) (by show z.1 ≤ w.1; omega) (by omega)
          · rw [if_neg g4] at h
            refine pPost_ag hr k _ y ?_ ?_ h
            · show c ≤ z.1 + 2; omega
            · exact hz.mono (Nat.le_refl _) (by show z.1 ≤ z.1 + 2; omega)
        · rw [if_neg g3] at h; cases h
      · rw [if_neg g2] at h
        cases h
        exact hz
theorem pArgs_ag {rv : Nat → Nat → PX} {kq c : Nat} (hr : ∀ c kq y, rv c kq = .inr y → c < y.1 ∧ agR c y.1 y.2.2.2.2) : ∀ (f k : Nat) (z : PZ) (y : Nat × PZ), c ≤ z.1 → agR c z.1 z.2.2.2.2 → pArgs T rv kq f k z = .inr y → agR c y.2.1 y.2.2.2.2.2
  | 0, k, z, y, hc, hz, h => by cases h
  | f + 1, k, z, y, hc, hz, h => by
    unfold pArgs at h
    by_cases g : k = 6
    · rw [if_pos g] at h; cases h
    · rw [if_neg g] at h
      cases hd : rv z.1 (kq + z.2.2.1.length) with
      | inl e => rw [hd] at h; cases h
      | inr w =>
        rw [hd] at h
        obtain ⟨w1, w2⟩ := hr _ _ _ hd
        by_cases g2 : (T w.1).1 = 44
        · simp only [if_pos g2] at h
          refine pArgs_ag hr f (k + 1) _ y ?_ ?_ h
          · show c ≤ w.1 + 1; omega
          · exact hz.app (w2.mono (Nat.le_refl _) (by omega)) (Nat.le_refl _) (by show z.1 ≤ w.1 + 1; omega) hc
        · simp only [if_neg g2] at h
          by_cases g3 : (T w.1).1 = 41
          · simp only [if_pos g3] at h
            cases h
            exact hz.app (w2.mono (Nat.le_refl _) (show w.1 ≤ w.1 + 1 by omega)) (Nat.le_refl _) (by show z.1 ≤ w.1 + 1; omega) hc
          · simp only [if_neg g3] at h; cases h
theorem prE_ag : ∀ (f tag o c kq : Nat) (y : PZ), tag ≤ 6 → prE T M f tag o c kq = .inr y → c < y.1 ∧ agR c y.1 y.2.2.2.2 := by
  intro f
  induction f with
  | zero => intro tag o c kq y _ h; cases h
  | succ f ih =>
    intro tag o c kq y ht h
    have hl := (prE_len (T := T) (M := M) (f + 1) tag o c kq y ht h).1
    refine ⟨hl, ?_⟩
    match tag, ht with
    | 0, _ =>
      rw [prE_0] at h
      cases hd : prE T M f 1 o c kq with
      | inl e => rw [hd] at h; cases h
      | inr z =>
        rw [hd] at h
        obtain ⟨z1, z2⟩ := ih 1 o c kq z (by omega) hd
        by_cases g : isCmp (T z.1).1 = true
        · simp only [if_pos g] at h
          cases hd2 : prE T M f 1 o (z.1 + 1) (kq + z.2.2.1.length) with
          | inl e => rw [hd2] at h; cases h
          | inr w =>
            rw [hd2] at h
            obtain ⟨w1, w2⟩ := ih 1 o _ _ w (by omega) hd2
            cases h
            exact z2.app w2 (by omega) (by show z.1 ≤ w.1; omega) (by omega)
        · simp only [if_neg g] at h
          cases h
          exact z2
    | 1, _ =>
      rw [prE_1] at h
      cases hd : prE T M f 2 o c kq with
      | inl e => rw [hd] at h; cases h
      | inr z =>
        rw [hd] at h
        obtain ⟨z1, z2⟩ := ih 2 o c kq z (by omega) hd
        exact pLoop_ag (fun c kq y hy => ih 2 o c kq y (by omega) hy) M z y (by omega) z2 h
    | 2, _ =>
      rw [prE_2] at h
      cases hd : prE T M f 3 o c kq with
      | inl e => rw [hd] at h; cases h
      | inr z =>
        rw [hd] at h
        obtain ⟨z1, z2⟩ := ih 3 o c kq z (by omega) hd
        exact pLoop_ag (fun c kq y hy => ih 3 o c kq y (by omega) hy) M z y (by omega) z2 h
    | 3, _ =>
      rw [prE_3] at h
      by_cases g : (T c).1 = 45
      · rw [if_pos g] at h
        by_cases g2 : o = 12
        · rw [if_pos g2] at h; cases h
        · rw [if_neg g2] at h
          cases hd : prE T M f 3 (o + 1) (c + 1) kq with
          | inl e => rw [hd] at h; cases h
          | inr z =>
            rw [hd] at h
            obtain ⟨z1, z2⟩ := ih 3 (o + 1) (c + 1) kq z (by omega) hd
            cases h
            exact z2.mono (by omega) (Nat.le_refl _)
      · rw [if_neg g] at h
        exact (ih 4 o c kq y (by omega) h).2
    | 4, _ =>
      rw [prE_4] at h
      cases hd : prE T M f 5 o c kq with
      | inl e => rw [hd] at h; cases h
      | inr z =>
        rw [hd] at h
        obtain ⟨z1, z2⟩ := ih 5 o c kq z (by omega) hd
        exact pPost_ag (fun c kq y hy => ih 6 o c kq y (by omega) hy) M z y (by omega) z2 h
    | 5, _ =>
      rw [prE_5] at h
      unfold pAtom at h
      by_cases k3 : (T c).1 = 3
      · rw [if_pos k3] at h; cases h; exact agR.nil
      rw [if_neg k3] at h
      by_cases k4 : (T c).1 = 4
      · rw [if_pos k4] at h; cases h; exact agR.nil
      rw [if_neg k4] at h
      by_cases k11 : (T c).1 = 11
      · rw [if_pos k11] at h; cases h; exact agR.nil
      rw [if_neg k11] at h
      by_cases k12 : (T c).1 = 12
      · rw [if_pos k12] at h; cases h; exact agR.nil
      rw [if_neg k12] at h
      by_cases k14 : (T c).1 = 14
      · rw [if_pos k14] at h
        cases hd : pKind T (c + 1) with
        | inl e => rw [hd] at h; cases h
        | inr c' =>
          rw [hd] at h
          cases h
          exact agR.nil
      rw [if_neg k14] at h
      by_cases k40 : (T c).1 = 40
      · rw [if_pos k40] at h
        by_cases g2 : o = 12
        · rw [if_pos g2] at h; cases h
        · rw [if_neg g2] at h
          cases hd : prE T M f 0 (o + 1) (c + 1) kq with
          | inl e => rw [hd] at h; cases h
          | inr z =>
            rw [hd] at h
            obtain ⟨z1, z2⟩ := ih 0 (o + 1) (c + 1) kq z (by omega) hd
            by_cases g3 : (T z.1).1 = 41
            · simp only [if_pos g3] at h
              cases h
              exact z2.mono (by omega) (by show z.1 ≤ z.1 + 1; omega)
            · simp only [if_neg g3] at h; cases h
      · rw [if_neg k40] at h; cases h
    | 6, _ =>
      rw [prE_6] at h
      unfold pCall at h
      by_cases g2 : o = 12
      · rw [if_pos g2] at h; cases h
      · rw [if_neg g2] at h
        by_cases g3 : (T (c + 1)).1 = 41
        · rw [if_pos g3] at h
          cases h
          refine ⟨fun e he => ?_, List.pairwise_singleton _ _⟩
          have ee : e = (c, 0) := by simpa using he
          rw [ee]
          show c ≤ c ∧ c < c + 2
          omega
        · rw [if_neg g3] at h
          cases hd : pArgs T (prE T M f 0 (o + 1)) kq 7 0 (c + 1, 0, [], [], []) with
          | inl e => rw [hd] at h; cases h
          | inr w =>
            rw [hd] at h
            have z2 := pArgs_ag (T := T) (c := c + 1) (fun c kq y hy => ih 0 (o + 1) c kq y (by omega) hy) 7 0 (c + 1, 0, [], [], []) w (Nat.le_refl _) agR.nil hd
            cases h
            show agR c w.2.1 (w.2.2.2.2.2 ++ [(c, w.1)])
            have hl' : c < w.2.1 := hl
            refine ⟨fun e he => ?_, List.pairwise_append.mpr ⟨z2.2, List.pairwise_singleton _ _, fun x hx y hy e => ?_⟩⟩
            · rcases List.mem_append.mp he with k | k
              · have := z2.1 e k; omega
              · have ee : e = (c, w.1) := by simpa using k
                rw [ee]
                exact ⟨Nat.le_refl _, hl'⟩
            · have ee : y = (c, w.1) := by simpa using hy
              have := z2.1 x hx
              rw [ee] at e
              dsimp only at e
              omega
    | t + 7, ht => omega
/-- behind a STATEMENT or BLOCK: its ARGUMENTS, how many KINDS and orders -/
def lnS (c : Nat) (y : PB) : Prop := c < y.1 ∧ agR c y.1 y.2.2.2.2 ∧ 4 * y.2.2.1.length ≤ y.1 - c ∧ y.2.2.2.1.length ≤ 2 * (y.1 - c)
theorem prV_ln {o c kq : Nat} {y : PZ} (h : prV T M o c kq = .inr y) : c < y.1 ∧ agR c y.1 y.2.2.2.2 ∧ 4 * y.2.2.1.length ≤ y.1 - c ∧ y.2.2.2.1.length ≤ y.1 - c := by
  have a := prE_ag 100 0 o c kq y (by omega) h
  have b := prE_len 100 0 o c kq y (by omega) h
  exact ⟨a.1, a.2, b.2.2, b.2.1⟩
theorem pSeq_ln {rd : Nat → Nat → Nat → Nat → PY} {kq i0 c : Nat} (hr : ∀ c td kq i0 x, rd c td kq i0 = .inr x → lnS c x) : ∀ (k : Nat) (z y : PB), (c < z.1 ∧ agR c z.1 z.2.2.2.2 ∧ 4 * z.2.2.1.length ≤ z.1 - c ∧ z.2.2.2.1.length + 1 ≤ 2 * (z.1 - c)) → pSeq T rd kq i0 k z = .inr y → c < y.1 ∧ agR c y.1 y.2.2.2.2 ∧ 4 * y.2.2.1.length ≤ y.1 - c ∧ y.2.2.2.1.length + 1 ≤ 2 * (y.1 - c)
  | 0, z, y, hz, h => by cases h; exact hz
  | k + 1, z, y, hz, h => by
    unfold pSeq at h
    by_cases g : (T z.1).1 = 125
    · rw [if_pos g] at h
      cases h
      exact hz
    · rw [if_neg g] at h
      cases hd : rd z.1 z.2.1 (kq + z.2.2.1.length) (i0 + z.2.2.2.1.length) with
      | inl e => rw [hd] at h; cases h
      | inr x =>
        rw [hd] at h
        obtain ⟨b1, b2, b3, b4⟩ := hr _ _ _ _ _ hd
        obtain ⟨a1, a2, a3, a4⟩ := hz
        refine pSeq_ln hr k _ y ⟨?_, ?_, ?_, ?_⟩ h
        · show c < x.1; omega
        · exact a2.app b2 (Nat.le_refl _) (by show z.1 ≤ x.1; omega) (by omega)
        · simp only [List.length_append]; omega
        · simp only [List.length_append]; omega
theorem prS_ln : ∀ (f tag o c td kq i0 : Nat) (y : PB), tag ≤ 1 → prS T M f tag o c td kq i0 = .inr y → lnS c y
  | 0, _, _, _, _, _, _, _, _, h => by cases h
  | f + 1, 0, o, c, td, kq, i0, y, _, h => by
    rw [prS_0] at h
    unfold pBlk at h
    by_cases a : (T c).1 = 123
    · rw [if_pos a] at h
      by_cases b : o = 12
      · rw [if_pos b] at h; cases h
      rw [if_neg b] at h
      cases hd : pSeq T (prS T M f 1 (o + 1)) kq i0 M (c + 1, td, [], [(26, (T (c + 1)).2.1, 0, 0, 0)], []) with
      | inl e => rw [hd] at h; cases h
      | inr z =>
        rw [hd] at h
        dsimp only at h
        obtain ⟨a1, a2, a3, a4⟩ := pSeq_ln (c := c) (fun c td kq i0 x hx => prS_ln f 1 (o + 1) c td kq i0 x (by omega) hx) _ _ _ ⟨by show c < c + 1; omega, agR.nil, by show 4 * 0 ≤ _; omega, by show 1 + 1 ≤ 2 * (c + 1 - c); omega⟩ hd
        by_cases g : (T z.1).1 = 125
        · rw [if_pos g] at h
          cases h
          refine ⟨by show c < z.1 + 1; omega, a2.mono (Nat.le_refl _) (by show z.1 ≤ z.1 + 1; omega), by show 4 * z.2.2.1.length ≤ z.1 + 1 - c; omega, ?_⟩
          simp only [List.length_append, List.length_singleton]; omega
        · rw [if_neg g] at h; cases h
    · rw [if_neg a] at h; cases h
  | f + 1, 1, o, c, td, kq, i0, y, _, h => by
    rw [prS_1] at h
    have grd : ∀ i0 x, pGrd T M (prS T M f 0 o) o c td kq i0 = .inr x → c + 2 < x.1.1 ∧ x.1.1 + 1 < x.2.1 ∧ agR (c + 2) x.1.1 x.1.2.2.2.2 ∧ agR (x.1.1 + 1) x.2.1 x.2.2.2.2.2 ∧ 4 * x.1.2.2.1.length ≤ x.1.1 - (c + 2) ∧ x.1.2.2.2.1.length ≤ x.1.1 - (c + 2) ∧ 4 * x.2.2.2.1.length ≤ x.2.1 - (x.1.1 + 1) ∧ x.2.2.2.2.1.length ≤ 2 * (x.2.1 - (x.1.1 + 1)) := by
      intro i0 x hx
      unfold pGrd at hx
      by_cases a : (T (c + 1)).1 = 40
      · rw [if_pos a] at hx
        by_cases b : o = 12
        · rw [if_pos b] at hx; cases hx
        rw [if_neg b] at hx
        cases hv : prV T M (o + 1) (c + 2) kq with
        | inl e => rw [hv] at hx; cases hx
        | inr v =>
          rw [hv] at hx
          dsimp only at hx
          obtain ⟨v1, v2, v3, v4⟩ := prV_ln hv
          by_cases g : (T v.1).1 = 41
          · rw [if_pos g] at hx
            cases hb : prS T M f 0 o (v.1 + 1) td (kq + v.2.2.1.length) (i0 + v.2.2.2.1.length + 1) with
            | inl e => rw [hb] at hx; cases hx
            | inr w =>
              rw [hb] at hx
              cases hx
              obtain ⟨b1, b2, b3, b4⟩ := prS_ln f 0 o _ _ _ _ w (by omega) hb
              exact ⟨v1, b1, v2, b2, v3, v4, b3, b4⟩
          · rw [if_neg g] at hx; cases hx
      · rw [if_neg a] at hx; cases hx
    by_cases e1 : (T c).1 = 2 ∨ (T c).1 = 10
    · rw [if_pos e1] at h
      unfold pDecl at h
      cases hp : pType T c with
      | inl x => rw [hp] at h; cases h
      | inr c1 =>
        rw [hp] at h
        dsimp only at h
        have l1 := pType_len hp
        by_cases h3 : (T c1).1 = 3
        · rw [if_pos h3] at h
          by_cases t16 : td = 16
          · rw [if_pos t16] at h; cases h
          rw [if_neg t16] at h
          by_cases h61 : (T (c1 + 1)).1 = 61
          · rw [if_pos h61] at h
            cases hv : prV T M o (c1 + 2) (kq + (if (T c).1 = 10 then 0 else 1)) with
            | inl x => rw [hv] at h; cases h
            | inr v =>
              rw [hv] at h
              dsimp only at h
              obtain ⟨v1, v2, v3, v4⟩ := prV_ln hv
              by_cases h59 : (T v.1).1 = 59
              · rw [if_pos h59] at h
                cases h
                refine ⟨by show c < v.1 + 1; omega, v2.mono (by omega) (by show v.1 ≤ v.1 + 1; omega), ?_, ?_⟩
                · by_cases g10 : (T c).1 = 10
                  · simp only [if_pos g10, List.nil_append]; omega
                  · have := l1.2 g10
                    simp only [if_neg g10, List.length_append, List.length_singleton]; omega
                · simp only [List.length_cons, List.length_append, List.length_nil]; omega
              · rw [if_neg h59] at h; cases h
          · rw [if_neg h61] at h; cases h
        · rw [if_neg h3] at h; cases h
    rw [if_neg e1] at h
    by_cases e15 : (T c).1 = 15
    · rw [if_pos e15] at h
      unfold pIf at h
      cases hg : pGrd T M (prS T M f 0 o) o c td kq (i0 + 1) with
      | inl e => rw [hg] at h; cases h
      | inr x =>
        rw [hg] at h
        obtain ⟨g1, g2, g3, g4, g5, g6, g7, g8⟩ := grd _ _ hg
        obtain ⟨v, w⟩ := x
        dsimp only at h g1 g2 g3 g4 g5 g6 g7 g8
        by_cases e16 : (T w.1).1 = 16
        · rw [if_pos e16] at h
          cases hb : prS T M f 0 o (w.1 + 1) w.2.1 (kq + v.2.2.1.length + w.2.2.1.length) (i0 + 3 + v.2.2.2.1.length + w.2.2.2.1.length) with
          | inl e => rw [hb] at h; cases h
          | inr u =>
            rw [hb] at h
            cases h
            obtain ⟨b1, b2, b3, b4⟩ := prS_ln f 0 o _ _ _ _ u (by omega) hb
            refine ⟨by show c < u.1; omega, ?_, ?_, ?_⟩
            · exact ((g3.mono (show c ≤ c + 2 by omega) (Nat.le_refl _)).app g4 (by omega) (by omega) (by omega)).app b2 (by omega) (by show w.1 ≤ u.1; omega) (by omega)
            · simp only [List.length_append]; omega
            · simp only [List.length_cons, List.length_append]; omega
        · rw [if_neg e16] at h
          cases h
          refine ⟨by show c < w.1; omega, (g3.mono (show c ≤ c + 2 by omega) (Nat.le_refl _)).app g4 (by omega) (by show v.1 ≤ w.1; omega) (by omega), ?_, ?_⟩
          · simp only [List.length_append]; omega
          · simp only [List.length_cons, List.length_append]; omega
    rw [if_neg e15] at h
    by_cases e17 : (T c).1 = 17
    · rw [if_pos e17] at h
      unfold pWhile at h
      cases hg : pGrd T M (prS T M f 0 o) o c td kq (i0 + 2) with
      | inl e => rw [hg] at h; cases h
      | inr x =>
        rw [hg] at h
        obtain ⟨g1, g2, g3, g4, g5, g6, g7, g8⟩ := grd _ _ hg
        obtain ⟨v, w⟩ := x
        dsimp only at g1 g2 g3 g4 g5 g6 g7 g8
        cases h
        refine ⟨by show c < w.1; omega, (g3.mono (show c ≤ c + 2 by omega) (Nat.le_refl _)).app g4 (by omega) (by show v.1 ≤ w.1; omega) (by omega), ?_, ?_⟩
        · simp only [List.length_append]; omega
        · simp only [List.length_cons, List.length_append, List.length_nil]; omega
    rw [if_neg e17] at h
    have giv : ∀ w, pGive T M o c td kq w = .inr y → lnS c y := by
      intro w hx
      unfold pGive at hx
      cases hv : prV T M o (c + 1) kq with
      | inl e => rw [hv] at hx; cases hx
      | inr v =>
        rw [hv] at hx
        dsimp only at hx
        obtain ⟨v1, v2, v3, v4⟩ := prV_ln hv
        by_cases g : (T v.1).1 = 59
        · rw [if_pos g] at hx
          cases hx
          refine ⟨by show c < v.1 + 1; omega, v2.mono (by omega) (by show v.1 ≤ v.1 + 1; omega), by show 4 * v.2.2.1.length ≤ v.1 + 1 - c; omega, ?_⟩
          simp only [List.length_cons, List.length_append, List.length_nil]; omega
        · rw [if_neg g] at hx; cases hx
    by_cases e18 : (T c).1 = 18
    · rw [if_pos e18] at h; exact giv _ h
    rw [if_neg e18] at h
    by_cases e19 : (T c).1 = 19
    · rw [if_pos e19] at h; exact giv _ h
    rw [if_neg e19] at h
    by_cases e123 : (T c).1 = 123
    · rw [if_pos e123] at h
      exact prS_ln f 0 o c td kq i0 y (by omega) h
    rw [if_neg e123] at h
    unfold pUse at h
    cases hv : prV T M o c kq with
    | inl e => rw [hv] at h; cases h
    | inr v =>
      rw [hv] at h
      dsimp only at h
      obtain ⟨v1, v2, v3, v4⟩ := prV_ln hv
      by_cases g : (T v.1).1 = 61 ∧ (v.2.1 = 1 ∨ v.2.1 = 2)
      · rw [if_pos g] at h
        cases hv2 : prV T M o (v.1 + 1) (kq + v.2.2.1.length) with
        | inl e => rw [hv2] at h; cases h
        | inr w =>
          rw [hv2] at h
          dsimp only at h
          obtain ⟨w1, w2, w3, w4⟩ := prV_ln hv2
          by_cases g2 : (T w.1).1 = 59
          · rw [if_pos g2] at h
            cases h
            refine ⟨by show c < w.1 + 1; omega, v2.app (w2.mono (Nat.le_refl _) (show w.1 ≤ w.1 + 1 by omega)) (by omega) (by show v.1 ≤ w.1 + 1; omega) (by omega), ?_, ?_⟩
            · simp only [List.length_append]; omega
            · unfold oLeft
              simp only [List.length_cons, List.length_append, List.length_nil, List.length_dropLast]; omega
          · rw [if_neg g2] at h; cases h
      · rw [if_neg g] at h
        by_cases g2 : (T v.1).1 = 59 ∧ v.2.1 = 3
        · rw [if_pos g2] at h
          cases h
          refine ⟨by show c < v.1 + 1; omega, v2.mono (Nat.le_refl _) (by show v.1 ≤ v.1 + 1; omega), by show 4 * v.2.2.1.length ≤ v.1 + 1 - c; omega, ?_⟩
          simp only [List.length_cons, List.length_append, List.length_nil]; omega
        · rw [if_neg g2] at h; cases h
  | f + 1, t + 2, o, c, td, kq, i0, y, ht, h => by omega
end MJA56
