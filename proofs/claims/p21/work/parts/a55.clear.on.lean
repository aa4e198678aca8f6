section
/-! ===== Members.clear ===== -/
section MJA55
variable {q d : Nat}
theorem L96_S (R : mjR) (n a : Nat) (b : Int32) (hp : mjH) : L_96_7 R (n + 1) a b hp = b_96_7 R (L_96_7 R n) a b hp := rfl
theorem lq_96 (hq : isP q) (R : mjR) : ∀ (r m n : Nat) (s : mjSt3), m + r = 385 → r < n → ∃ s', L_96_7 R n (q + 14) (nI m) (mjW0 s) = some (none, mjW0 s') ∧ (∀ k, m ≤ k → k < 385 → s'.1 (q + 18) k = b2 (decide (k = 384)) ∧ s'.1 (q + 20) k = 0) ∧ (∀ k, k < m → s'.1 (q + 18) k = s.1 (q + 18) k ∧ s'.1 (q + 20) k = s.1 (q + 20) k) ∧ s'.1 (q + 16) 384 = -1 ∧ s'.1 (q + 17) 384 = -1 ∧ (∀ h, ¬ h = q + 16 → ¬ h = q + 17 → ¬ h = q + 18 → ¬ h = q + 20 → s'.1 h = s.1 h) ∧ s'.2 = s.2
  | r, m, 0, s, e, hr => by omega
  | 0, m, n + 1, s, e, hr => by
    obtain ⟨z1, h1⟩ : ∃ z, z = uI s (q + 16) (upd (s.1 (q + 16)) 384 (-1)) := ⟨_, rfl⟩
    obtain ⟨z2, h2⟩ : ∃ z, z = uI z1 (q + 17) (upd (z1.1 (q + 17)) 384 (-1)) := ⟨_, rfl⟩
    have em : m = 385 := by omega
    subst em
    have r2 : ∀ h, ¬ h = q + 16 → ¬ h = q + 17 → z2.1 h = s.1 h := fun h a b => by rw [h2, uI_ne _ _ _ _ b, h1, uI_ne _ _ _ _ a]
    refine ⟨z2, ?_, fun k a b => by omega, fun k _ => ⟨by rw [r2 _ (by omega) (by omega)], by rw [r2 _ (by omega) (by omega)]⟩, ?_, ?_, fun h a b _ _ => r2 h a b, by rw [h2, h1]; rfl⟩
    · rw [L96_S]
      unfold b_96_7
      rw [if_pos (show (385 : Int32) ≤ nI 385 by decide), ymg_2 hq, show (384 : Int32) = nI 384 from rfl, wys_16 hq (by omega), ← h1, ymg_3 hq, wys_17 hq (by omega), ← h2]
    · rw [h2, uI_ne _ _ _ _ (by omega), h1, uI_same, upd_g, if_pos rfl]
    · rw [h2, uI_same, upd_g, if_pos rfl]
  | r + 1, m, n + 1, s, e, hr => by
    obtain ⟨z1, h1⟩ : ∃ z, z = uI s (q + 18) (upd (s.1 (q + 18)) m (b2 (decide (m = 384)))) := ⟨_, rfl⟩
    obtain ⟨z2, h2⟩ : ∃ z, z = uI z1 (q + 20) (upd (z1.1 (q + 20)) m 0) := ⟨_, rfl⟩
    obtain ⟨s', a1, a2, a3, a4, a5, a6, a7⟩ := lq_96 hq R r (m + 1) n z2 (by omega) (by omega)
    have e18 : z2.1 (q + 18) = upd (s.1 (q + 18)) m (b2 (decide (m = 384))) := by rw [h2, uI_ne _ _ _ _ (by omega), h1, uI_same]
    have e20 : z2.1 (q + 20) = upd (s.1 (q + 20)) m 0 := by rw [h2, uI_same, h1, uI_ne _ _ _ _ (by omega)]
    have r2 : ∀ h, ¬ h = q + 18 → ¬ h = q + 20 → z2.1 h = s.1 h := fun h a b => by rw [h2, uI_ne _ _ _ _ b, h1, uI_ne _ _ _ _ a]
    refine ⟨s', ?_, fun k ka kb => ?_, fun k hk => ?_, a4, a5, fun h x1 x2 x3 x4 => by rw [a6 h x1 x2 x3 x4, r2 h x3 x4], by rw [a7, h2, h1]; rfl⟩
    · rw [L96_S]
      unfold b_96_7 b_96_31
      rw [if_neg (show ¬ (385 : Int32) ≤ nI m from nI_ge (b := 385) (by omega) (by decide)), ymg_4 hq]
      have nt : vp_nar .boolean (b2 true) = b2 true := rfl
      have nf : vp_nar .boolean (b2 false) = b2 false := rfl
      by_cases g : m = 384
      · rw [decide_eq_true g] at h1
        rw [if_pos (show nI m = 384 by rw [g]; rfl), show (1 : Int32) = b2 true from rfl, wys_18 hq (by omega), nt, ← h1, ymg_6 hq, wys_20 hq (by omega), ← h2, show b2 true = (1 : Int32) from rfl, nI_1]
        exact a1
      · rw [decide_eq_false g] at h1
        rw [if_neg (show ¬ nI m = 384 from fun x => g ((nI_eq (b := 384) (by omega) (by decide)).mp x)), show (0 : Int32) = b2 false from rfl, wys_18 hq (by omega), nf, ← h1, ymg_6 hq, show b2 false = (0 : Int32) from rfl, wys_20 hq (by omega), ← h2, nI_1]
        exact a1
    · by_cases g : k = m
      · subst g
        rw [(a3 k (by omega)).1, (a3 k (by omega)).2, e18, e20, upd_g, upd_g, if_pos rfl, if_pos rfl]
        exact ⟨rfl, rfl⟩
      · exact a2 k (by omega) kb
    · rw [(a3 k (by omega)).1, (a3 k (by omega)).2, e18, e20, upd_g, upd_g, if_neg (by omega), if_neg (by omega)]
      exact ⟨rfl, rfl⟩
end MJA55
end
section
/-! ===== the ARGUMENTS that are read: each ( stands once ===== -/
def agR (a b : Nat) (l : List (Nat × Nat)) : Prop := (∀ e, e ∈ l → a ≤ e.1 ∧ e.1 < b) ∧ l.Pairwise (fun x y => ¬ x.1 = y.1)
section MJA56
variable {T : TT} {M : Nat}
theorem agR.nil {a b : Nat} : agR a b [] := ⟨fun e h => (by cases h), List.Pairwise.nil⟩
theorem agR.mono {a b a' b' : Nat} {l : List (Nat × Nat)} (h : agR a b l) (h1 : a' ≤ a) (h2 : b ≤ b') : agR a' b' l := ⟨fun e he => by have := h.1 e he; omega, h.2⟩
theorem agR.app {a b b' c : Nat} {l m : List (Nat × Nat)} (h : agR a b l) (g : agR b' c m) (h1 : b ≤ b') (h2 : b ≤ c) (h3 : a ≤ b') : agR a c (l ++ m) := by
  refine ⟨fun e he => ?_, List.pairwise_append.mpr ⟨h.2, g.2, fun x hx y hy e => ?_⟩⟩
  · rcases List.mem_append.mp he with k | k
    · have := h.1 e k; omega
    · have := g.1 e k; omega
  · have a1 := h.1 x hx
    have a2 := g.1 y hy
    omega
theorem rAg_o : ∀ (l : List (Nat × Nat)) (ag : Nat → Int32) (t : Nat), (∀ e, e ∈ l → ¬ e.1 = t) → rAg l ag t = ag t
  | [], _, _, _ => rfl
  | e :: l, ag, t, h => by
    show rAg l (upd ag e.1 (nI e.2)) t = ag t
    rw [rAg_o l _ t (fun x hx => h x (List.mem_cons_of_mem _ hx)), upd_g, if_neg (fun x => h e List.mem_cons_self x.symm)]
theorem rAg_m : ∀ (l : List (Nat × Nat)) (ag : Nat → Int32), l.Pairwise (fun x y => ¬ x.1 = y.1) → ∀ e, e ∈ l → rAg l ag e.1 = nI e.2
  | [], _, _, e, h => by cases h
  | x :: l, ag, p, e, h => by
    show rAg l (upd ag x.1 (nI x.2)) e.1 = nI e.2
    have p' := List.pairwise_cons.mp p
    rcases List.mem_cons.mp h with k | k
    · subst k
      rw [rAg_o l _ e.1 (fun y hy z => p'.1 y hy z.symm), upd_g, if_pos rfl]
    · exact rAg_m l _ p'.2 e k
theorem pLoop_ag {sg : Int32 → Bool} {rd : Nat → Nat → PX} {kq c : Nat} (hr : ∀ c kq y, rd c kq = .inr y → c < y.1 ∧ agR c y.1 y.2.2.2.2) : ∀ (k : Nat) (z y : PZ), c ≤ z.1 → agR c z.1 z.2.2.2.2 → pLoop T sg rd kq k z = .inr y → agR c y.1 y.2.2.2.2
  | 0, z, y, hc, hz, h => by cases h; exact hz
  | k + 1, z, y, hc, hz, h => by
    unfold pLoop at h
    by_cases g : sg (T z.1).1 = true
    · rw [if_pos g] at h
      cases hd : rd (z.1 + 1) (kq + z.2.2.1.length) with
      | inl e => rw [hd] at h; cases h
      | inr w =>
        rw [hd] at h
        obtain ⟨w1, w2⟩ := hr _ _ _ hd
        refine pLoop_ag hr k _ y ?_ ?_ h
        · show c ≤ w.1; omega
        · exact hz.app w2 (by omega) (by show z.1 ≤ w.1; omega) (by omega)
    · rw [if_neg g] at h
      cases h
      exact hz
theorem pPost_ag {ra : Nat → Nat → PX} {kq c : Nat} (hr : ∀ c kq y, ra c kq = .inr y → c < y.1 ∧ agR c y.1 y.2.2.2.2) : ∀ (k : Nat) (z y : PZ), c ≤ z.1 → agR c z.1 z.2.2.2.2 → pPost T ra kq k z = .inr y → agR c y.1 y.2.2.2.2
  | 0, z, y, hc, hz, h => by cases h; exact hz
  | k + 1, z, y, hc, hz, h => by
    unfold pPost at h
    by_cases g : (T z.1).1 = 20
    · rw [if_pos g] at h
      cases hd : pKind T (z.1 + 1) with
      | inl e => rw [hd] at h; cases h
      | inr c' =>
        rw [hd] at h
        have hw := pKind_len hd
        refine pPost_ag hr k _ y ?_ ?_ h
        · show c ≤ c'; omega
        · exact hz.mono (Nat.le_refl _) (by show z.1 ≤ c'; omega)
    · rw [if_neg g] at h
      by_cases g2 : (T z.1).1 = 46
      · rw [if_pos g2] at h
        by_cases g3 : (T (z.1 + 1)).1 = 3
        · rw [if_pos g3] at h
          by_cases g4 : (T (z.1 + 2)).1 = 40
          · rw [if_pos g4] at h
            cases hd : ra (z.1 + 2) (kq + z.2.2.1.length) with
            | inl e => rw [hd] at h; cases h
            | inr w =>
              rw [hd] at h
              obtain ⟨w1, w2⟩ := hr _ _ _ hd
              refine pPost_ag hr k _ y ?_ ?_ h
              · show c ≤ w.1; omega
              · exact hz.app w2 (by omega) (by show z.1 ≤ w.1; omega) (by omega)
          · rw [if_neg g4] at h
            refine pPost_ag hr k _ y ?_ ?_ h
            · show c ≤ z.1 + 2; omega
            · exact hz.mono (Nat.le_refl _) (by show z.1 ≤ z.1 + 2; omega)
        · rw [if_neg g3] at h; cases h
      · rw [if_neg g2] at h
        cases h
        exact hz
theorem pArgs_ag {rv : Nat → Nat → PX} {kq c : Nat} (hr : ∀ c kq y, rv c kq = .inr y → c < y.1 ∧ agR c y.1 y.2.2.2.2) : ∀ (f k : Nat) (z : PZ) (y : Nat × PZ), c ≤ z.1 → agR c z.1 z.2.2.2.2 → pArgs T rv kq f k z = .inr y → agR c y.2.1 y.2.2.2.2.2
  | 0, k, z, y, hc, hz, h => by cases h
  | f + 1, k, z, y, hc, hz, h => by
    unfold pArgs at h
    by_cases g : k = 6
    · rw [if_pos g] at h; cases h
    · rw [if_neg g] at h
      cases hd : rv z.1 (kq + z.2.2.1.length) with
      | inl e => rw [hd] at h; cases h
      | inr w =>
        rw [hd] at h
        obtain ⟨w1, w2⟩ := hr _ _ _ hd
        by_cases g2 : (T w.1).1 = 44
        · simp only [if_pos g2] at h
          refine pArgs_ag hr f (k + 1) _ y ?_ ?_ h
          · show c ≤ w.1 + 1; omega
          · exact hz.app (w2.mono (Nat.le_refl _) (by omega)) (Nat.le_refl _) (by show z.1 ≤ w.1 + 1; omega) hc
        · simp only [if_neg g2] at h
          by_cases g3 : (T w.1).1 = 41
          · simp only [if_pos g3] at h
            cases h
            exact hz.app (w2.mono (Nat.le_refl _) (show w.1 ≤ w.1 + 1 by omega)) (Nat.le_refl _) (by show z.1 ≤ w.1 + 1; omega) hc
          · simp only [if_neg g3] at h; cases h
theorem prE_ag : ∀ (f tag o c kq : Nat) (y : PZ), tag ≤ 6 → prE T M f tag o c kq = .inr y → c < y.1 ∧ agR c y.1 y.2.2.2.2 := by
  intro f
  induction f with
  | zero => intro tag o c kq y _ h; cases h
  | succ f ih =>
    intro tag o c kq y ht h
    have hl := (prE_len (T := T) (M := M) (f + 1) tag o c kq y ht h).1
    refine ⟨hl, ?_⟩
    match tag, ht with
    | 0, _ =>
      rw [prE_0] at h
      cases hd : prE T M f 1 o c kq with
      | inl e => rw [hd] at h; cases h
      | inr z =>
        rw [hd] at h
        obtain ⟨z1, z2⟩ := ih 1 o c kq z (by omega) hd
        by_cases g : isCmp (T z.1).1 = true
        · simp only [if_pos g] at h
          cases hd2 : prE T M f 1 o (z.1 + 1) (kq + z.2.2.1.length) with
          | inl e => rw [hd2] at h; cases h
          | inr w =>
            rw [hd2] at h
            obtain ⟨w1, w2⟩ := ih 1 o _ _ w (by omega) hd2
            cases h
            exact z2.app w2 (by omega) (by show z.1 ≤ w.1; omega) (by omega)
        · simp only [if_neg g] at h
          cases h
          exact z2
    | 1, _ =>
      rw [prE_1] at h
      cases hd : prE T M f 2 o c kq with
      | inl e => rw [hd] at h; cases h
      | inr z =>
        rw [hd] at h
        obtain ⟨z1, z2⟩ := ih 2 o c kq z (by omega) hd
        exact pLoop_ag (fun c kq y hy => ih 2 o c kq y (by omega) hy) M z y (by omega) z2 h
    | 2, _ =>
      rw [prE_2] at h
      cases hd : prE T M f 3 o c kq with
      | inl e => rw [hd] at h; cases h
      | inr z =>
        rw [hd] at h
        obtain ⟨z1, z2⟩ := ih 3 o c kq z (by omega) hd
        exact pLoop_ag (fun c kq y hy => ih 3 o c kq y (by omega) hy) M z y (by omega) z2 h
    | 3, _ =>
      rw [prE_3] at h
      by_cases g : (T c).1 = 45
      · rw [if_pos g] at h
        by_cases g2 : o = 12
        · rw [if_pos g2] at h; cases h
        · rw [if_neg g2] at h
          cases hd : prE T M f 3 (o + 1) (c + 1) kq with
          | inl e => rw [hd] at h; cases h
          | inr z =>
            rw [hd] at h
            obtain ⟨z1, z2⟩ := ih 3 (o + 1) (c + 1) kq z (by omega) hd
            cases h
            exact z2.mono (by omega) (Nat.le_refl _)
      · rw [if_neg g] at h
        exact (ih 4 o c kq y (by omega) h).2
    | 4, _ =>
      rw [prE_4] at h
      cases hd : prE T M f 5 o c kq with
      | inl e => rw [hd] at h; cases h
      | inr z =>
        rw [hd] at h
        obtain ⟨z1, z2⟩ := ih 5 o c kq z (by omega) hd
        exact pPost_ag (fun c kq y hy => ih 6 o c kq y (by omega) hy) M z y (by omega) z2 h
    | 5, _ =>
      rw [prE_5] at h
      unfold pAtom at h
      by_cases k3 : (T c).1 = 3
      · rw [if_pos k3] at h; cases h; exact agR.nil
      rw [if_neg k3] at h
      by_cases k4 : (T c).1 = 4
      · rw [if_pos k4] at h; cases h; exact agR.nil
      rw [if_neg k4] at h
      by_cases k11 : (T c).1 = 11
      · rw [if_pos k11] at h; cases h; exact agR.nil
      rw [if_neg k11] at h
      by_cases k12 : (T c).1 = 12
      · rw [if_pos k12] at h; cases h; exact agR.nil
      rw [if_neg k12] at h
      by_cases k14 : (T c).1 = 14
      · rw [if_pos k14] at h
        cases hd : pKind T (c + 1) with
        | inl e => rw [hd] at h; cases h
        | inr c' =>
          rw [hd] at h
          cases h
          exact agR.nil
      rw [if_neg k14] at h
      by_cases k40 : (T c).1 = 40
      · rw [if_pos k40] at h
        by_cases g2 : o = 12
        · rw [if_pos g2] at h; cases h
        · rw [if_neg g2] at h
          cases hd : prE T M f 0 (o + 1) (c + 1) kq with
          | inl e => rw [hd] at h; cases h
          | inr z =>
            rw [hd] at h
            obtain ⟨z1, z2⟩ := ih 0 (o + 1) (c + 1) kq z (by omega) hd
            by_cases g3 : (T z.1).1 = 41
            · simp only [if_pos g3] at h
              cases h
              exact z2.mono (by omega) (by show z.1 ≤ z.1 + 1; omega)
            · simp only [if_neg g3] at h; cases h
      · rw [if_neg k40] at h; cases h
    | 6, _ =>
      rw [prE_6] at h
      unfold pCall at h
      by_cases g2 : o = 12
      · rw [if_pos g2] at h; cases h
      · rw [if_neg g2] at h
        by_cases g3 : (T (c + 1)).1 = 41
        · rw [if_pos g3] at h
          cases h
          refine ⟨fun e he => ?_, List.pairwise_singleton _ _⟩
          have ee : e = (c, 0) := by simpa using he
          rw [ee]
          show c ≤ c ∧ c < c + 2
          omega
        · rw [if_neg g3] at h
          cases hd : pArgs T (prE T M f 0 (o + 1)) kq 7 0 (c + 1, 0, [], [], []) with
          | inl e => rw [hd] at h; cases h
          | inr w =>
            rw [hd] at h
            have z2 := pArgs_ag (T := T) (c := c + 1) (fun c kq y hy => ih 0 (o + 1) c kq y (by omega) hy) 7 0 (c + 1, 0, [], [], []) w (Nat.le_refl _) agR.nil hd
            cases h
            show agR c w.2.1 (w.2.2.2.2.2 ++ [(c, w.1)])
            have hl' : c < w.2.1 := hl
            refine ⟨fun e he => ?_, List.pairwise_append.mpr ⟨z2.2, List.pairwise_singleton _ _, fun x hx y hy e => ?_⟩⟩
            · rcases List.mem_append.mp he with k | k
              · have := z2.1 e k; omega
              · have ee : e = (c, w.1) := by simpa using k
                rw [ee]
                exact ⟨Nat.le_refl _, hl'⟩
            · have ee : y = (c, w.1) := by simpa using hy
              have := z2.1 x hx
              rw [ee] at e
              dsimp only at e
              omega
    | t + 7, ht => omega
/-- behind a STATEMENT or BLOCK: its ARGUMENTS, how many KINDS and orders -/
def lnS (c : Nat) (y : PB) : Prop := c < y.1 ∧ agR c y.1 y.2.2.2.2 ∧ 4 * y.2.2.1.length ≤ y.1 - c ∧ y.2.2.2.1.length ≤ 2 * (y.1 - c)
theorem prV_ln {o c kq : Nat} {y : PZ} (h : prV T M o c kq = .inr y) : c < y.1 ∧ agR c y.1 y.2.2.2.2 ∧ 4 * y.2.2.1.length ≤ y.1 - c ∧ y.2.2.2.1.length ≤ y.1 - c := by
  have a := prE_ag 100 0 o c kq y (by omega) h
  have b := prE_len 100 0 o c kq y (by omega) h
  exact ⟨a.1, a.2, b.2.2, b.2.1⟩
theorem pSeq_ln {rd : Nat → Nat → Nat → Nat → PY} {kq i0 c : Nat} (hr : ∀ c td kq i0 x, rd c td kq i0 = .inr x → lnS c x) : ∀ (k : Nat) (z y : PB), (c < z.1 ∧ agR c z.1 z.2.2.2.2 ∧ 4 * z.2.2.1.length ≤ z.1 - c ∧ z.2.2.2.1.length + 1 ≤ 2 * (z.1 - c)) → pSeq T rd kq i0 k z = .inr y → c < y.1 ∧ agR c y.1 y.2.2.2.2 ∧ 4 * y.2.2.1.length ≤ y.1 - c ∧ y.2.2.2.1.length + 1 ≤ 2 * (y.1 - c)
  | 0, z, y, hz, h => by cases h; exact hz
  | k + 1, z, y, hz, h => by
    unfold pSeq at h
    by_cases g : (T z.1).1 = 125
    · rw [if_pos g] at h
      cases h
      exact hz
    · rw [if_neg g] at h
      cases hd : rd z.1 z.2.1 (kq + z.2.2.1.length) (i0 + z.2.2.2.1.length) with
      | inl e => rw [hd] at h; cases h
      | inr x =>
        rw [hd] at h
        obtain ⟨b1, b2, b3, b4⟩ := hr _ _ _ _ _ hd
        obtain ⟨a1, a2, a3, a4⟩ := hz
        refine pSeq_ln hr k _ y ⟨?_, ?_, ?_, ?_⟩ h
        · show c < x.1; omega
        · exact a2.app b2 (Nat.le_refl _) (by show z.1 ≤ x.1; omega) (by omega)
        · simp only [List.length_append]; omega
        · simp only [List.length_append]; omega
theorem prS_ln : ∀ (f tag o c td kq i0 : Nat) (y : PB), tag ≤ 1 → prS T M f tag o c td kq i0 = .inr y → lnS c y
  | 0, _, _, _, _, _, _, _, _, h => by cases h
  | f + 1, 0, o, c, td, kq, i0, y, _, h => by
    rw [prS_0] at h
    unfold pBlk at h
    by_cases a : (T c).1 = 123
    · rw [if_pos a] at h
      by_cases b : o = 12
      · rw [if_pos b] at h; cases h
      rw [if_neg b] at h
      cases hd : pSeq T (prS T M f 1 (o + 1)) kq i0 M (c + 1, td, [], [(26, (T (c + 1)).2.1, 0, 0, 0)], []) with
      | inl e => rw [hd] at h; cases h
      | inr z =>
        rw [hd] at h
        dsimp only at h
        obtain ⟨a1, a2, a3, a4⟩ := pSeq_ln (c := c) (fun c td kq i0 x hx => prS_ln f 1 (o + 1) c td kq i0 x (by omega) hx) _ _ _ ⟨by show c < c + 1; omega, agR.nil, by show 4 * 0 ≤ _; omega, by show 1 + 1 ≤ 2 * (c + 1 - c); omega⟩ hd
        by_cases g : (T z.1).1 = 125
        · rw [if_pos g] at h
          cases h
          refine ⟨by show c < z.1 + 1; omega, a2.mono (Nat.le_refl _) (by show z.1 ≤ z.1 + 1; omega), by show 4 * z.2.2.1.length ≤ z.1 + 1 - c; omega, ?_⟩
          simp only [List.length_append, List.length_singleton]; omega
        · rw [if_neg g] at h; cases h
    · rw [if_neg a] at h; cases h
  | f + 1, 1, o, c, td, kq, i0, y, _, h => by
    rw [prS_1] at h
    have grd : ∀ i0 x, pGrd T M (prS T M f 0 o) o c td kq i0 = .inr x → c + 2 < x.1.1 ∧ x.1.1 + 1 < x.2.1 ∧ agR (c + 2) x.1.1 x.1.2.2.2.2 ∧ agR (x.1.1 + 1) x.2.1 x.2.2.2.2.2 ∧ 4 * x.1.2.2.1.length ≤ x.1.1 - (c + 2) ∧ x.1.2.2.2.1.length ≤ x.1.1 - (c + 2) ∧ 4 * x.2.2.2.1.length ≤ x.2.1 - (x.1.1 + 1) ∧ x.2.2.2.2.1.length ≤ 2 * (x.2.1 - (x.1.1 + 1)) := by
      intro i0 x hx
      unfold pGrd at hx
      by_cases a : (T (c + 1)).1 = 40
      · rw [if_pos a] at hx
        by_cases b : o = 12
        · rw [if_pos b] at hx; cases hx
        rw [if_neg b] at hx
        cases hv : prV T M (o + 1) (c + 2) kq with
        | inl e => rw [hv] at hx; cases hx
        | inr v =>
          rw [hv] at hx
          dsimp only at hx
          obtain ⟨v1, v2, v3, v4⟩ := prV_ln hv
          by_cases g : (T v.1).1 = 41
          · rw [if_pos g] at hx
            cases hb : prS T M f 0 o (v.1 + 1) td (kq + v.2.2.1.length) (i0 + v.2.2.2.1.length + 1) with
            | inl e => rw [hb] at hx; cases hx
            | inr w =>
              rw [hb] at hx
              cases hx
              obtain ⟨b1, b2, b3, b4⟩ := prS_ln f 0 o _ _ _ _ w (by omega) hb
              exact ⟨v1, b1, v2, b2, v3, v4, b3, b4⟩
          · rw [if_neg g] at hx; cases hx
      · rw [if_neg a] at hx; cases hx
    by_cases e1 : (T c).1 = 2 ∨ (T c).1 = 10
    · rw [if_pos e1] at h
      unfold pDecl at h
      cases hp : pType T c with
      | inl x => rw [hp] at h; cases h
      | inr c1 =>
        rw [hp] at h
        dsimp only at h
        have l1 := pType_len hp
        by_cases h3 : (T c1).1 = 3
        · rw [if_pos h3] at h
          by_cases t16 : td = 16
          · rw [if_pos t16] at h; cases h
          rw [if_neg t16] at h
          by_cases h61 : (T (c1 + 1)).1 = 61
          · rw [if_pos h61] at h
            cases hv : prV T M o (c1 + 2) (kq + (if (T c).1 = 10 then 0 else 1)) with
            | inl x => rw [hv] at h; cases h
            | inr v =>
              rw [hv] at h
              dsimp only at h
              obtain ⟨v1, v2, v3, v4⟩ := prV_ln hv
              by_cases h59 : (T v.1).1 = 59
              · rw [if_pos h59] at h
                cases h
                refine ⟨by show c < v.1 + 1; omega, v2.mono (by omega) (by show v.1 ≤ v.1 + 1; omega), ?_, ?_⟩
                · by_cases g10 : (T c).1 = 10
                  · simp only [if_pos g10, List.nil_append]; omega
                  · have := l1.2 g10
                    simp only [if_neg g10, List.length_append, List.length_singleton]; omega
                · simp only [List.length_cons, List.length_append, List.length_nil]; omega
              · rw [if_neg h59] at h; cases h
          · rw [if_neg h61] at h; cases h
        · rw [if_neg h3] at h; cases h
    rw [if_neg e1] at h
    by_cases e15 : (T c).1 = 15
    · rw [if_pos e15] at h
      unfold pIf at h
      cases hg : pGrd T M (prS T M f 0 o) o c td kq (i0 + 1) with
      | inl e => rw [hg] at h; cases h
      | inr x =>
        rw [hg] at h
        obtain ⟨g1, g2, g3, g4, g5, g6, g7, g8⟩ := grd _ _ hg
        obtain ⟨v, w⟩ := x
        dsimp only at h g1 g2 g3 g4 g5 g6 g7 g8
        by_cases e16 : (T w.1).1 = 16
        · rw [if_pos e16] at h
          cases hb : prS T M f 0 o (w.1 + 1) w.2.1 (kq + v.2.2.1.length + w.2.2.1.length) (i0 + 3 + v.2.2.2.1.length + w.2.2.2.1.length) with
          | inl e => rw [hb] at h; cases h
          | inr u =>
            rw [hb] at h
            cases h
            obtain ⟨b1, b2, b3, b4⟩ := prS_ln f 0 o _ _ _ _ u (by omega) hb
            refine ⟨by show c < u.1; omega, ?_, ?_, ?_⟩
            · exact ((g3.mono (show c ≤ c + 2 by omega) (Nat.le_refl _)).app g4 (by omega) (by omega) (by omega)).app b2 (by omega) (by show w.1 ≤ u.1; omega) (by omega)
            · simp only [List.length_append]; omega
            · simp only [List.length_cons, List.length_append]; omega
        · rw [if_neg e16] at h
          cases h
          refine ⟨by show c < w.1; omega, (g3.mono (show c ≤ c + 2 by omega) (Nat.le_refl _)).app g4 (by omega) (by show v.1 ≤ w.1; omega) (by omega), ?_, ?_⟩
          · simp only [List.length_append]; omega
          · simp only [List.length_cons, List.length_append]; omega
    rw [if_neg e15] at h
    by_cases e17 : (T c).1 = 17
    · rw [if_pos e17] at h
      unfold pWhile at h
      cases hg : pGrd T M (prS T M f 0 o) o c td kq (i0 + 2) with
      | inl e => rw [hg] at h; cases h
      | inr x =>
        rw [hg] at h
        obtain ⟨g1, g2, g3, g4, g5, g6, g7, g8⟩ := grd _ _ hg
        obtain ⟨v, w⟩ := x
        dsimp only at g1 g2 g3 g4 g5 g6 g7 g8
        cases h
        refine ⟨by show c < w.1; omega, (g3.mono (show c ≤ c + 2 by omega) (Nat.le_refl _)).app g4 (by omega) (by show v.1 ≤ w.1; omega) (by omega), ?_, ?_⟩
        · simp only [List.length_append]; omega
        · simp only [List.length_cons, List.length_append, List.length_nil]; omega
    rw [if_neg e17] at h
    have giv : ∀ w, pGive T M o c td kq w = .inr y → lnS c y := by
      intro w hx
      unfold pGive at hx
      cases hv : prV T M o (c + 1) kq with
      | inl e => rw [hv] at hx; cases hx
      | inr v =>
        rw [hv] at hx
        dsimp only at hx
        obtain ⟨v1, v2, v3, v4⟩ := prV_ln hv
        by_cases g : (T v.1).1 = 59
        · rw [if_pos g] at hx
          cases hx
          refine ⟨by show c < v.1 + 1; omega, v2.mono (by omega) (by show v.1 ≤ v.1 + 1; omega), by show 4 * v.2.2.1.length ≤ v.1 + 1 - c; omega, ?_⟩
          simp only [List.length_cons, List.length_append, List.length_nil]; omega
        · rw [if_neg g] at hx; cases hx
    by_cases e18 : (T c).1 = 18
    · rw [if_pos e18] at h; exact giv _ h
    rw [if_neg e18] at h
    by_cases e19 : (T c).1 = 19
    · rw [if_pos e19] at h; exact giv _ h
    rw [if_neg e19] at h
    by_cases e123 : (T c).1 = 123
    · rw [if_pos e123] at h
      exact prS_ln f 0 o c td kq i0 y (by omega) h
    rw [if_neg e123] at h
    unfold pUse at h
    cases hv : prV T M o c kq with
    | inl e => rw [hv] at h; cases h
    | inr v =>
      rw [hv] at h
      dsimp only at h
      obtain ⟨v1, v2, v3, v4⟩ := prV_ln hv
      by_cases g : (T v.1).1 = 61 ∧ (v.2.1 = 1 ∨ v.2.1 = 2)
      · rw [if_pos g] at h
        cases hv2 : prV T M o (v.1 + 1) (kq + v.2.2.1.length) with
        | inl e => rw [hv2] at h; cases h
        | inr w =>
          rw [hv2] at h
          dsimp only at h
          obtain ⟨w1, w2, w3, w4⟩ := prV_ln hv2
          by_cases g2 : (T w.1).1 = 59
          · rw [if_pos g2] at h
            cases h
            refine ⟨by show c < w.1 + 1; omega, v2.app (w2.mono (Nat.le_refl _) (show w.1 ≤ w.1 + 1 by omega)) (by omega) (by show v.1 ≤ w.1 + 1; omega) (by omega), ?_, ?_⟩
            · simp only [List.length_append]; omega
            · unfold oLeft
              simp only [List.length_cons, List.length_append, List.length_nil, List.length_dropLast]; omega
          · rw [if_neg g2] at h; cases h
      · rw [if_neg g] at h
        by_cases g2 : (T v.1).1 = 59 ∧ v.2.1 = 3
        · rw [if_pos g2] at h
          cases h
          refine ⟨by show c < v.1 + 1; omega, v2.mono (Nat.le_refl _) (by show v.1 ≤ v.1 + 1; omega), by show 4 * v.2.2.1.length ≤ v.1 + 1 - c; omega, ?_⟩
          simp only [List.length_cons, List.length_append, List.length_nil]; omega
        · rw [if_neg g2] at h; cases h
  | f + 1, t + 2, o, c, td, kq, i0, y, ht, h => by omega
end MJA56
end
section
/-! ===== what was read of each MEMBER ===== -/
/-- orders from i on -/
def OT (ot : Nat → Row) (i : Nat) (l : List Row) : Prop := ∀ (j : Nat) (r : Row), l[j]? = some r → ot (i + j) = r
def AGf (ag : Nat → Int32) (l : List (Nat × Nat)) : Prop := ∀ e, e ∈ l → ag e.1 = nI e.2
/-- where PARAM i begins -/
def pos0 (c0 : Nat) (l : List (Nat × Nat × Int32)) (i : Nat) : Nat := match i with
  | 0 => c0
  | j + 1 => (match l[j]? with
    | some p => p.2.1 + 2
    | none => 0)
/-- PARAMS from c0 to en -/
def PLok (T : TT) (kt : Int32 → Nat) (c0 kq : Nat) (l : List (Nat × Nat × Int32)) (ks : List Nat) (en : Nat) : Prop := en = pos0 c0 l l.length ∧ c0 ≤ en ∧ l.length ≤ 6 ∧ 4 * ks.length + c0 ≤ en ∧ ∀ (i : Nat) (p : Nat × Nat × Int32), l[i]? = some p → pType T p.1 = .inr p.2.1 ∧ (T p.2.1).1 = 3 ∧ p.1 = pos0 c0 l i ∧ p.1 < p.2.1 ∧ p.2.1 + 2 ≤ en ∧ ∃ kk, kq ≤ kk ∧ kk ≤ kq + ks.length ∧ p.2.2 = tyK T p.1 kk ∧ KT kt kk (tyL T p.1)
/-- a MEMBER as it was read, to behind it; its first KIND is kq -/
def MOK (T : TT) (M : Nat) (kt : Int32 → Nat) (ot : Nat → Row) (ag : Nat → Int32) (k0 : Nat) (md : MD) (en kq : Nat) (ps : PP) (z : PB) : Prop := pType T md.1 = .inr md.2.1 ∧ (T md.2.1).1 = 3 ∧ md.2.2.2.2.2.2.2 = tyK T md.1 kq ∧ KT kt kq (tyL T md.1) ∧ md.1 < md.2.1 ∧ md.2.1 + 2 ≤ en ∧ (k0 ≤ kq ∧ 4 * kq ≤ 4 * k0 + md.1) ∧
  ((md.2.2.1 = false ∧ md.2.2.2.1 = [] ∧ en = md.2.1 + 2 ∧ (T (md.2.1 + 1)).1 = 59) ∨
   (md.2.2.1 = true ∧ md.2.2.2.2.2.2.1 ≤ 2 * md.1 ∧ (T (md.2.1 + 1)).1 = 40 ∧ md.2.2.2.1 = ps.2.1 ∧ md.2.2.2.2.1 = ps.1 ∧ (ps.1 = md.2.1 + 3 ∧ ps.2.1 = [] ∨ PLok T kt (md.2.1 + 2) (kq + (tyL T md.1).length) ps.2.1 ps.2.2 ps.1) ∧ ps.2.1.length ≤ 6 ∧ KT kt (kq + (tyL T md.1).length) ps.2.2 ∧ prS T M 30 0 1 ps.1 ps.2.1.length (kq + (tyL T md.1).length + ps.2.2.length) md.2.2.2.2.2.2.1 = .inr z ∧ z.1 = en ∧ z.2.1 = md.2.2.2.2.2.1 ∧ KT kt (kq + (tyL T md.1).length + ps.2.2.length) z.2.2.1 ∧ OT ot md.2.2.2.2.2.2.1 (z.2.2.2.1 ++ [oOver]) ∧ AGf ag z.2.2.2.2 ∧ md.2.1 + 3 ≤ ps.1 ∧ 4 * (kq + (tyL T md.1).length + ps.2.2.length) ≤ 4 * k0 + ps.1))
/-- an int as a number; the KINDS of a list from kq on -/
def nN (a : Int32) : Nat := a.toNatClampNeg
def ktL (kq : Nat) (l : List Nat) (a : Int32) : Nat := (l[nN a - kq]?).getD 0
abbrev RcM : Type := MD × Nat × Nat × PP × PB
def CHm (T : TT) (M : Nat) (kt : Int32 → Nat) (ot : Nat → Row) (ag : Nat → Int32) (k0 : Nat) : Nat → List RcM → Nat → Prop
  | p, [], p' => p ≤ p'
  | p, r :: l, p' => p ≤ r.1.1 ∧ MOK T M kt ot ag k0 r.1 r.2.1 r.2.2.1 r.2.2.2.1 r.2.2.2.2 ∧ CHm T M kt ot ag k0 r.2.1 l p'
section MJA57
variable {T : TT} {M N k0 : Nat} {kt : Int32 → Nat} {ot : Nat → Row} {ag : Nat → Int32}
theorem OT.app {i : Nat} {a b : List Row} (h : OT ot i (a ++ b)) : OT ot i a ∧ OT ot (i + a.length) b := by
  refine ⟨fun j r hj => h j r (by rw [List.getElem?_append_left (List.getElem?_eq_some_iff.mp hj).1]; exact hj), fun j r hj => ?_⟩
  rw [Nat.add_assoc]
  exact h (a.length + j) r (by rw [List.getElem?_append_right (by omega), show a.length + j - a.length = j by omega]; exact hj)
theorem AGf.app {a b : List (Nat × Nat)} (h : AGf ag (a ++ b)) : AGf ag a ∧ AGf ag b := ⟨fun e he => h e (List.mem_append_left _ he), fun e he => h e (List.mem_append_right _ he)⟩
theorem pType_S {c c' : Nat} (h : pType T c = .inr c') : tyS (T c).1 = true := by
  unfold pType at h
  by_cases a : (T c).1 = 10
  · unfold tyS; rw [a]; decide
  · rw [if_neg a] at h
    unfold pKind at h
    by_cases b : (T c).1 = 2
    · unfold tyS; rw [b]; decide
    · rw [if_neg b] at h; cases h
theorem pos0_app {c0 i : Nat} {l m : List (Nat × Nat × Int32)} (h : i ≤ l.length) : pos0 c0 (l ++ m) i = pos0 c0 l i := by
  cases i with
  | zero => rfl
  | succ j =>
    show (match (l ++ m)[j]? with
      | some p => p.2.1 + 2
      | none => 0) = _
    rw [List.getElem?_append_left (by omega)]
    rfl
theorem PLok.snoc {c0 kq en t a : Nat} {l : List (Nat × Nat × Int32)} {ks : List Nat} (h : PLok T kt c0 kq l ks en) (hl : l.length < 6) (ht : t = en) (hp : pType T t = .inr a) (h3 : (T a).1 = 3) (hK : KT kt (kq + ks.length) (tyL T t)) : PLok T kt c0 kq (l ++ [(t, a, tyK T t (kq + ks.length))]) (ks ++ tyL T t) (a + 2) := by
  obtain ⟨e1, e2, e3, e4, e5⟩ := h
  have l1 := pType_len hp
  have tl : 4 * (tyL T t).length ≤ a - t := by
    unfold tyL
    by_cases g : (T t).1 = 10
    · rw [if_pos g]; show 4 * 0 ≤ _; omega
    · rw [if_neg g]
      have := l1.2 g
      show 4 * 1 ≤ _
      omega
  refine ⟨?_, by omega, by rw [List.length_append, List.length_singleton]; omega, by rw [List.length_append]; omega, fun i p hi => ?_⟩
  · rw [List.length_append, List.length_singleton]
    show _ = (match (l ++ [(t, a, tyK T t (kq + ks.length))])[l.length]? with
      | some p => p.2.1 + 2
      | none => 0)
    rw [List.getElem?_append_right (Nat.le_refl _), Nat.sub_self]
    rfl
  · by_cases g : i < l.length
    · rw [List.getElem?_append_left g] at hi
      obtain ⟨b1, b2, b3, b4, b5, kk, k1, k2, k3, k4⟩ := e5 i p hi
      exact ⟨b1, b2, by rw [pos0_app (by omega)]; exact b3, b4, by omega, kk, k1, by rw [List.length_append]; omega, k3, k4⟩
    · have hi' := (List.getElem?_eq_some_iff.mp hi).1
      rw [List.length_append, List.length_singleton] at hi'
      have ei : i = l.length := by omega
      subst ei
      rw [List.getElem?_append_right (Nat.le_refl _), Nat.sub_self] at hi
      have ep : (t, a, tyK T t (kq + ks.length)) = p := by simpa using hi
      subst ep
      refine ⟨hp, h3, ?_, by show t < a; omega, Nat.le_refl _, kq + ks.length, by omega, by rw [List.length_append]; omega, rfl, hK⟩
      rw [pos0_app (Nat.le_refl _)]
      show t = _
      rw [ht, e1]
theorem pPars_ok {c0 kq : Nat} : ∀ (f : Nat) (z y : PP), pPars T kq f z = .inr y → (∀ kt, KT kt kq z.2.2 → PLok T kt c0 kq z.2.1 z.2.2 z.1) → ∀ kt, KT kt kq y.2.2 → PLok T kt c0 kq y.2.1 y.2.2 y.1
  | 0, z, y, h, _, _, _ => by cases h
  | f + 1, z, y, h, hz, kt, hk => by
    unfold pPars at h
    by_cases g : tyS (T z.1).1 = true ∧ z.2.1.length = 6
    · rw [if_pos g] at h; cases h
    rw [if_neg g] at h
    cases hp : pType T z.1 with
    | inl e => rw [hp] at h; cases h
    | inr a =>
      rw [hp] at h
      dsimp only at h
      have hS := pType_S hp
      by_cases g3 : (T a).1 = 3
      · rw [if_pos g3] at h
        have nx : ∀ kt, KT kt kq (z.2.2 ++ tyL T z.1) → PLok T kt c0 kq (z.2.1 ++ [(z.1, a, tyK T z.1 (kq + z.2.2.length))]) (z.2.2 ++ tyL T z.1) (a + 2) := by
          intro kt hk
          have k2 := KT.app hk
          have h0 := hz kt k2.1
          have l6 : ¬ z.2.1.length = 6 := fun e => g ⟨hS, e⟩
          have := h0.2.2.1
          exact h0.snoc (by omega) rfl hp g3 k2.2
        by_cases g44 : (T (a + 1)).1 = 44
        · rw [if_pos g44] at h
          exact pPars_ok f _ y h nx kt hk
        · rw [if_neg g44] at h
          by_cases g41 : (T (a + 1)).1 = 41
          · rw [if_pos g41] at h
            cases h
            exact nx kt hk
          · rw [if_neg g41] at h; cases h
      · rw [if_neg g3] at h; cases h
theorem tyL_len {t c' : Nat} (h : pType T t = .inr c') : 4 * (tyL T t).length ≤ c' - t := by
  have l1 := pType_len h
  unfold tyL
  by_cases g : (T t).1 = 10
  · rw [if_pos g]; show 4 * 0 ≤ _; omega
  · rw [if_neg g]
    have := l1.2 g
    show 4 * 1 ≤ _
    omega
/-- some kt for any KINDS -/
theorem nN_nI {m : Nat} (h : m < 2147483648) : nN (nI m) = m := nI_clamp h
theorem KT_ex (kq : Nat) (l : List Nat) (h : kq + l.length ≤ 100000) : KT (ktL kq l) kq l := by
  intro j t hj
  have := (List.getElem?_eq_some_iff.mp hj).1
  unfold ktL
  rw [nN_nI (by omega), show kq + j - kq = j by omega, hj]
  rfl
theorem pMem_ok {k c kq i0 : Nat} {r : PR} (h : pMem T M k c kq i0 = .inr r) (h1 : k0 ≤ kq ∧ 4 * kq ≤ 4 * k0 + c) (h2 : i0 ≤ 2 * c) (hkb : kq ≤ 10000 ∧ k0 ≤ 1000) (hcb : r.1 ≤ 3000) : r.2.1.1 = c ∧ c + 2 < r.1 ∧ ¬ k = 24 ∧ agR c r.1 r.2.2.2.2 ∧ 4 * r.2.2.1.length ≤ r.1 - c ∧ r.2.2.2.1.length ≤ 2 * (r.1 - c) ∧ ∃ (ps : PP) (zb : PB), ∀ kt ot ag, KT kt kq r.2.2.1 → OT ot i0 r.2.2.2.1 → AGf ag r.2.2.2.2 → MOK T M kt ot ag k0 r.2.1 r.1 kq ps zb := by
  unfold pMem at h
  by_cases e24 : k = 24
  · rw [if_pos e24] at h; cases h
  rw [if_neg e24] at h
  cases hp : pType T c with
  | inl e => rw [hp] at h; cases h
  | inr c1 =>
    rw [hp] at h
    dsimp only at h
    have l1 := (pType_len hp).1
    have tl := tyL_len hp
    by_cases g3 : (T c1).1 = 3
    · rw [if_pos g3] at h
      by_cases g59 : (T (c1 + 1)).1 = 59
      · rw [if_pos g59] at h
        cases h
        refine ⟨rfl, by show c + 2 < c1 + 2; omega, e24, agR.nil, by show 4 * (tyL T c).length ≤ c1 + 2 - c; omega, by show 0 ≤ _; omega, (0, [], []), (0, 0, [], [], []), fun kt ot ag hk ho ha => ?_⟩
        exact ⟨hp, g3, rfl, hk, by show c < c1; omega, Nat.le_refl _, h1, Or.inl ⟨rfl, rfl, rfl, g59⟩⟩
      · rw [if_neg g59] at h
        cases hq : pParams T (kq + (tyL T c).length) (c1 + 1) with
        | inl e => rw [hq] at h; cases h
        | inr y =>
          rw [hq] at h
          dsimp only at h
          cases hz : prS T M 30 0 1 y.1 y.2.1.length (kq + (tyL T c).length + y.2.2.length) i0 with
          | inl e => rw [hz] at h; cases h
          | inr z =>
            rw [hz] at h
            cases h
            obtain ⟨s1, s2, s3, s4⟩ := prS_ln 30 0 1 _ _ _ _ z (by omega) hz
            have hcb' : z.1 ≤ 3000 := hcb
            have P : (T (c1 + 1)).1 = 40 ∧ c1 + 3 ≤ y.1 ∧ 4 * y.2.2.length + c1 + 2 ≤ y.1 ∧ y.2.1.length ≤ 6 ∧ ∀ kt, KT kt (kq + (tyL T c).length) y.2.2 → (y.1 = c1 + 3 ∧ y.2.1 = [] ∨ PLok T kt (c1 + 2) (kq + (tyL T c).length) y.2.1 y.2.2 y.1) := by
              unfold pParams at hq
              by_cases g40 : (T (c1 + 1)).1 = 40
              · rw [if_pos g40] at hq
                by_cases g41 : (T (c1 + 1 + 1)).1 = 41
                · rw [if_pos g41] at hq
                  cases hq
                  exact ⟨g40, by show c1 + 3 ≤ c1 + 1 + 2; omega, by show 4 * 0 + c1 + 2 ≤ c1 + 1 + 2; omega, by show 0 ≤ 6; omega, fun kt _ => Or.inl ⟨rfl, rfl⟩⟩
                · rw [if_neg g41] at hq
                  have pl := pPars_len 7 _ y hq
                  dsimp only at pl
                  have A := pPars_ok (c0 := c1 + 2) 7 (c1 + 1 + 1, [], []) y hq (fun kt _ => ⟨rfl, Nat.le_refl _, by show 0 ≤ 6; omega, by show 4 * 0 + (c1 + 2) ≤ c1 + 1 + 1; omega, fun i p hi => by cases hi⟩)
                  have A0 := A _ (KT_ex (kq + (tyL T c).length) y.2.2 (by
                    have : ([] : List Nat).length = 0 := rfl
                    omega))
                  have ne : ¬ y.2.1 = [] := by
                    intro e
                    have e1 := A0.1
                    rw [e] at e1
                    have e2 : y.1 = c1 + 2 := e1
                    unfold pPars at hq
                    by_cases gg : tyS (T (c1 + 1 + 1)).1 = true ∧ ([] : List (Nat × Nat × Int32)).length = 6
                    · exact absurd gg.2 (by decide)
                    · rw [if_neg gg] at hq
                      dsimp only at hq
                      cases hp2 : pType T (c1 + 1 + 1) with
                      | inl e => rw [hp2] at hq; cases hq
                      | inr a =>
                        rw [hp2] at hq
                        dsimp only at hq
                        have l2 := (pType_len hp2).1
                        by_cases g3 : (T a).1 = 3
                        · rw [if_pos g3] at hq
                          by_cases g44 : (T (a + 1)).1 = 44
                          · rw [if_pos g44] at hq
                            have := pPars_len 6 _ y hq
                            have z0 := A0.2.2.2.1
                            dsimp only at this
                            have q1 : (([] : List Nat) ++ tyL T (c1 + 1 + 1)).length = (tyL T (c1 + 1 + 1)).length := rfl
                            have q2 := tyL_len hp2
                            omega
                          · rw [if_neg g44] at hq
                            by_cases g41 : (T (a + 1)).1 = 41
                            · rw [if_pos g41] at hq
                              cases hq
                              cases e
                            · rw [if_neg g41] at hq; cases hq
                        · rw [if_neg g3] at hq; cases hq
                  have nz : 0 < y.2.1.length := List.length_pos_iff.mpr ne
                  obtain ⟨p0, hp0⟩ : ∃ p, y.2.1[0]? = some p := ⟨_, List.getElem?_eq_getElem nz⟩
                  obtain ⟨_, _, w3, w4, w5, _⟩ := A0.2.2.2.2 0 p0 hp0
                  have w6 : p0.1 = c1 + 2 := w3
                  exact ⟨g40, by omega, by have := A0.2.2.2.1; omega, A0.2.2.1, fun kt hk => Or.inr (A kt hk)⟩
              · rw [if_neg g40] at hq; cases hq
            obtain ⟨g40, y1, y2, y3, y4⟩ := P
            refine ⟨rfl, by show c + 2 < z.1; omega, e24, s2.mono (by omega) (Nat.le_refl _), ?_, ?_, y, z, fun kt ot ag hk ho ha => ?_⟩
            · simp only [List.length_append]; omega
            · simp only [List.length_append, List.length_singleton]; omega
            · have k1 := KT.app hk
              have k2 := KT.app k1.1
              refine ⟨hp, g3, rfl, k2.1, by show c < c1; omega, by show c1 + 2 ≤ z.1; omega, h1, Or.inr ⟨rfl, h2, g40, rfl, rfl, y4 kt k2.2, y3, k2.2, hz, rfl, rfl, ?_, ho, ha, by show c1 + 3 ≤ y.1; omega, ?_⟩⟩
              · have := k1.2
                rw [List.length_append, ← Nat.add_assoc] at this
                exact this
              · show 4 * (kq + (tyL T c).length + y.2.2.length) ≤ 4 * k0 + y.1
                omega
    · rw [if_neg g3] at h; cases h
theorem CHm.le : ∀ {l : List RcM} {p p' : Nat}, CHm T M kt ot ag k0 p l p' → p ≤ p'
  | [], _, _, h => h
  | r :: l, p, p', h => by
    have a := CHm.le h.2.2
    have b := h.2.1.2.2.2.2.1
    have c := h.2.1.2.2.2.2.2.1
    have := h.1
    omega
theorem CHm.lo {l : List RcM} {p0 p p' : Nat} (h : CHm T M kt ot ag k0 p l p') (h0 : p0 ≤ p) : CHm T M kt ot ag k0 p0 l p' := by
  cases l with
  | nil => exact Nat.le_trans h0 h
  | cons r l => exact ⟨Nat.le_trans h0 h.1, h.2⟩
theorem CHm.app : ∀ {l m : List RcM} {p p1 p2 : Nat}, CHm T M kt ot ag k0 p l p1 → CHm T M kt ot ag k0 p1 m p2 → CHm T M kt ot ag k0 p (l ++ m) p2
  | [], m, p, p1, p2, h, g => CHm.lo g h
  | r :: l, m, p, p1, p2, h, g => ⟨h.1, h.2.1, CHm.app h.2.2 g⟩
theorem CHm.at : ∀ {l : List RcM} {p p' i : Nat} {r : RcM}, CHm T M kt ot ag k0 p l p' → l[i]? = some r → MOK T M kt ot ag k0 r.1 r.2.1 r.2.2.1 r.2.2.2.1 r.2.2.2.2 ∧ p ≤ r.1.1 ∧ r.2.1 ≤ p'
  | [], _, _, _, _, _, h => by cases h
  | x :: l, p, p', 0, r, h, hi => by
    cases hi
    exact ⟨h.2.1, h.1, CHm.le h.2.2⟩
  | x :: l, p, p', i + 1, r, h, hi => by
    have hi' : l[i]? = some r := hi
    obtain ⟨a, b, c⟩ := CHm.at h.2.2 hi'
    have d := h.2.1.2.2.2.2.1
    have e := h.2.1.2.2.2.2.2.1
    have := h.1
    exact ⟨a, by omega, c⟩
theorem CHm.lt : ∀ {l : List RcM} {p p' i j : Nat} {r r' : RcM}, CHm T M kt ot ag k0 p l p' → i < j → l[i]? = some r → l[j]? = some r' → r.2.1 ≤ r'.1.1
  | [], _, _, _, _, _, _, _, _, h, _ => by cases h
  | x :: l, p, p', 0, 0, r, r', h, hij, hi, hj => by omega
  | x :: l, p, p', i + 1, 0, r, r', h, hij, hi, hj => by omega
  | x :: l, p, p', 0, j + 1, r, r', h, hij, hi, hj => by
    cases hi
    have hj' : l[j]? = some r' := hj
    exact (CHm.at h.2.2 hj').2.1
  | x :: l, p, p', i + 1, j + 1, r, r', h, hij, hi, hj => by
    have hi' : l[i]? = some r := hi
    have hj' : l[j]? = some r' := hj
    exact CHm.lt h.2.2 (show i < j by omega) hi' hj'
end MJA57
end
section
/-! ===== what was read of a TEXT ===== -/
/-- a CLASS's head as it was read -/
def HDk (T : TT) (N : Nat) (hd : HD) : Prop := ((T hd.1).1 = 2 ∧ hd.1 ≤ N ∧ 1 ≤ hd.2.1 ∧ hd.2.1 ≤ 5 ∧ ∀ i, i < hd.2.1 → (T (hd.1 + 2 + 2 * i)).1 = 3 ∧ hd.1 + 2 + 2 * i ≤ N) ∧ (¬ hd.2.2.1 = 0 → KDk T N hd.2.2.1) ∧ hd.2.2.2.2 ≤ 8 ∧ ∀ i, i < hd.2.2.2.2 → (T (hd.2.2.2.1 + 4 * i)).1 = 3 ∧ (T (hd.2.2.2.1 + 4 * i + 2)).1 = 3 ∧ hd.2.2.2.1 + 4 * i + 2 ≤ N
section MJA58
variable {T : TT} {M N k0 : Nat}
theorem pNames_ok (h0 : (T N).1 = 0) : ∀ (f k c : Nat) (a : Nat × Nat), f + k = 6 → 1 ≤ f → c ≤ N → pNames T f k c = .inr a → k < a.1 ∧ a.1 ≤ 5 ∧ a.2 = c + 2 * (a.1 - k) ∧ a.2 ≤ N ∧ ∀ i, i < a.1 - k → (T (c + 2 * i)).1 = 3 ∧ c + 2 * i ≤ N
  | 0, k, c, a, hf, h1, hc, h => by omega
  | f + 1, k, c, a, hf, h1, hc, h => by
    unfold pNames at h
    by_cases g3 : (T c).1 = 3
    · rw [if_pos g3] at h
      have c1 := lt_z h0 hc g3 (by decide)
      by_cases g5 : k = 5
      · rw [if_pos g5] at h; cases h
      rw [if_neg g5] at h
      by_cases g44 : (T (c + 1)).1 = 44
      · rw [if_pos g44] at h
        have c2 := lt_z h0 (show c + 1 ≤ N by omega) g44 (by decide)
        obtain ⟨a1, a2, a3, a4, a5⟩ := pNames_ok h0 f (k + 1) (c + 2) a (by omega) (by omega) (by omega) h
        refine ⟨by omega, a2, by omega, a4, fun i hi => ?_⟩
        cases i with
        | zero => exact ⟨g3, hc⟩
        | succ i =>
          have := a5 i (by omega)
          rw [show c + 2 + 2 * i = c + 2 * (i + 1) by omega] at this
          exact this
      · rw [if_neg g44] at h
        by_cases g93 : (T (c + 1)).1 = 93
        · rw [if_pos g93] at h
          have c2 := lt_z h0 (show c + 1 ≤ N by omega) g93 (by decide)
          cases h
          refine ⟨by show k < k + 1; omega, by show k + 1 ≤ 5; omega, by show c + 2 = c + 2 * (k + 1 - k); omega, by show c + 2 ≤ N; omega, fun i hi => ?_⟩
          have hi' : i < k + 1 - k := hi
          have e : i = 0 := by omega
          subst e
          exact ⟨g3, hc⟩
        · rw [if_neg g93] at h; cases h
    · rw [if_neg g3] at h; cases h
theorem pIns_ok (h0 : (T N).1 = 0) : ∀ (f k c : Nat) (a : Nat × Nat), f + k = 9 → 1 ≤ f → c ≤ N → pIns T f k c = .inr a → k < a.1 ∧ a.1 ≤ 8 ∧ c < a.2 ∧ a.2 ≤ N ∧ ∀ i, i < a.1 - k → (T (c + 4 * i)).1 = 3 ∧ (T (c + 4 * i + 2)).1 = 3 ∧ c + 4 * i + 2 ≤ N
  | 0, k, c, a, hf, h1, hc, h => by omega
  | f + 1, k, c, a, hf, h1, hc, h => by
    unfold pIns at h
    by_cases g3 : (T c).1 = 3
    · rw [if_pos g3] at h
      have c1 := lt_z h0 hc g3 (by decide)
      by_cases g5 : k = 8
      · rw [if_pos g5] at h; cases h
      rw [if_neg g5] at h
      by_cases g8 : (T (c + 1)).1 = 8
      · rw [if_pos g8] at h
        have c2 := lt_z h0 (show c + 1 ≤ N by omega) g8 (by decide)
        by_cases g33 : (T (c + 2)).1 = 3
        · rw [if_pos g33] at h
          have c3 := lt_z h0 (show c + 2 ≤ N by omega) g33 (by decide)
          by_cases g44 : (T (c + 3)).1 = 44
          · rw [if_pos g44] at h
            have c4 := lt_z h0 (show c + 3 ≤ N by omega) g44 (by decide)
            cases f with
            | zero => omega
            | succ f =>
              obtain ⟨a1, a2, a3, a4, a5⟩ := pIns_ok h0 (f + 1) (k + 1) (c + 4) a (by omega) (by omega) (by omega) h
              refine ⟨by omega, a2, by omega, a4, fun i hi => ?_⟩
              cases i with
              | zero => exact ⟨g3, g33, by omega⟩
              | succ i =>
                have := a5 i (by omega)
                rw [show c + 4 + 4 * i = c + 4 * (i + 1) by omega] at this
                exact this
          · rw [if_neg g44] at h
            cases h
            refine ⟨by show k < k + 1; omega, by show k + 1 ≤ 8; omega, by show c < c + 3; omega, by show c + 3 ≤ N; omega, fun i hi => ?_⟩
            have hi' : i < k + 1 - k := hi
            have e : i = 0 := by omega
            subst e
            exact ⟨g3, g33, by omega⟩
        · rw [if_neg g33] at h; cases h
      · rw [if_neg g8] at h; cases h
    · rw [if_neg g3] at h; cases h
theorem pHead_ok {n c : Nat} {h : Nat × HD} (h0 : (T N).1 = 0) (hc : c < N) (hh : pHead T n c = .inr h) : HDk T N h.2 ∧ c + 4 < h.1 ∧ h.1 ≤ N ∧ 4 * (hdK h.2).length ≤ h.1 - c ∧ ¬ n = 16 ∧ h.2.1 = c + 1 ∧ (¬ h.2.2.2.1 = 0 → h.2.1 < h.2.2.2.1 ∧ h.2.2.2.1 < h.1) := by
  unfold pHead at hh
  by_cases e16 : n = 16
  · rw [if_pos e16] at hh; cases hh
  rw [if_neg e16] at hh
  by_cases g2 : (T (c + 1)).1 = 2
  · rw [if_pos g2] at hh
    have c1 := lt_z h0 (show c + 1 ≤ N by omega) g2 (by decide)
    by_cases g91 : (T (c + 2)).1 = 91
    · rw [if_pos g91] at hh
      have c2 := lt_z h0 (show c + 2 ≤ N by omega) g91 (by decide)
      cases hn : pNames T 6 0 (c + 3) with
      | inl e => rw [hn] at hh; cases hh
      | inr a =>
        rw [hn] at hh
        dsimp only at hh
        obtain ⟨n1, n2, n3, n4, n5⟩ := pNames_ok h0 6 0 (c + 3) a (by omega) (by omega) (by omega) hn
        cases ha : pAbove T a.2 with
        | inl e => rw [ha] at hh; cases hh
        | inr x =>
          rw [ha] at hh
          dsimp only at hh
          have A : (x ≤ N ∧ a.2 ≤ x) ∧ ((T a.2).1 = 6 → KDk T N (a.2 + 1) ∧ a.2 + 4 ≤ x) := by
            unfold pAbove at ha
            by_cases g6 : (T a.2).1 = 6
            · rw [if_pos g6] at ha
              have c3 := lt_z h0 n4 g6 (by decide)
              obtain ⟨k1, k2⟩ := pKind_ok h0 (show a.2 + 1 ≤ N by omega) ha
              have k3 := k1.2.2.2.1
              have k4 := pKind_len ha
              exact ⟨⟨by omega, by omega⟩, fun _ => ⟨k1, by omega⟩⟩
            · rw [if_neg g6] at ha
              cases ha
              exact ⟨⟨n4, Nat.le_refl _⟩, fun g => absurd g g6⟩
          obtain ⟨⟨x1, x2⟩, x3⟩ := A
          cases hw : pWhere T x with
          | inl e => rw [hw] at hh; cases hh
          | inr w =>
            rw [hw] at hh
            dsimp only at hh
            have W : x ≤ w.2 ∧ w.2 ≤ N ∧ w.1 ≤ 8 ∧ ∀ i, i < w.1 → (T (x + 1 + 4 * i)).1 = 3 ∧ (T (x + 1 + 4 * i + 2)).1 = 3 ∧ x + 1 + 4 * i + 2 ≤ N := by
              unfold pWhere at hw
              by_cases g7 : (T x).1 = 7
              · rw [if_pos g7] at hw
                have c3 := lt_z h0 x1 g7 (by decide)
                obtain ⟨i1, i2, i3, i4, i5⟩ := pIns_ok h0 9 0 (x + 1) w (by omega) (by omega) (by omega) hw
                exact ⟨by omega, i4, i2, fun i hi => i5 i (by omega)⟩
              · rw [if_neg g7] at hw
                cases hw
                exact ⟨Nat.le_refl _, x1, by show 0 ≤ 8; omega, fun i hi => absurd hi (by show ¬ i < 0; omega)⟩
            obtain ⟨w1, w2, w3, w4⟩ := W
            by_cases g123 : (T w.2).1 = 123
            · rw [if_pos g123] at hh
              have c3 := lt_z h0 w2 g123 (by decide)
              cases hh
              refine ⟨⟨⟨g2, by show c + 1 ≤ N; omega, by show 1 ≤ a.1; omega, n2, fun i hi => ?_⟩, fun hk => ?_, w3, w4⟩, by show c + 4 < w.2 + 1; omega, by show w.2 + 1 ≤ N; omega, ?_, e16, rfl, ?_⟩
              · have := n5 i (by have : i < a.1 := hi; omega)
                rw [show c + 3 + 2 * i = c + 1 + 2 + 2 * i by omega] at this
                exact this
              · by_cases g6 : (T a.2).1 = 6
                · show KDk T N (if (T a.2).1 = 6 then a.2 + 1 else 0)
                  rw [if_pos g6]
                  exact (x3 g6).1
                · exact absurd (if_neg g6) hk
              · by_cases g6 : (T a.2).1 = 6
                · have e : hdK (c + 1, a.1, if (T a.2).1 = 6 then a.2 + 1 else 0, x + 1, w.1) = [a.2 + 1] := by
                    unfold hdK
                    dsimp only
                    rw [if_pos g6, if_neg (by omega)]
                  rw [e]
                  show 4 * 1 ≤ w.2 + 1 - c
                  omega
                · have e : hdK (c + 1, a.1, if (T a.2).1 = 6 then a.2 + 1 else 0, x + 1, w.1) = [] := by
                    unfold hdK
                    dsimp only
                    rw [if_neg g6, if_pos rfl]
                  rw [e]
                  show 4 * 0 ≤ _
                  omega
              · intro hk
                by_cases g6 : (T a.2).1 = 6
                · have := (x3 g6).2
                  show c + 1 < (if (T a.2).1 = 6 then a.2 + 1 else 0) ∧ (if (T a.2).1 = 6 then a.2 + 1 else 0) < w.2 + 1
                  rw [if_pos g6]
                  omega
                · exact absurd (if_neg g6) hk
            · rw [if_neg g123] at hh; cases hh
    · rw [if_neg g91] at hh; cases hh
  · rw [if_neg g2] at hh; cases hh
theorem prS_le {o c td kq i0 : Nat} {z : PB} (hN : N ≤ 3000) (h0 : (T N).1 = 0) (ho : o ≤ 1) (hc : c ≤ N) (ht : td ≤ 16) (h : prS T (N + 1) 30 0 o c td kq i0 = .inr z) : z.1 ≤ N := by
  have r := (rdS_ok (sTH_ok hN h0) 30 190 o c td kq i0 0 (fun _ => 0) (by omega) (by omega) hc ht).1 (by omega)
  rw [h] at r
  exact r.1
theorem pPars_le (hN : N ≤ 3000) (h0 : (T N).1 = 0) {kq : Nat} : ∀ (f : Nat) (z y : PP), z.1 ≤ N → pPars T kq f z = .inr y → y.1 ≤ N
  | 0, z, y, hz, h => by cases h
  | f + 1, z, y, hz, h => by
    unfold pPars at h
    by_cases g : tyS (T z.1).1 = true ∧ z.2.1.length = 6
    · rw [if_pos g] at h; cases h
    rw [if_neg g] at h
    cases hp : pType T z.1 with
    | inl e => rw [hp] at h; cases h
    | inr a =>
      rw [hp] at h
      dsimp only at h
      have ha := pType_le hN h0 hz hp
      by_cases g3 : (T a).1 = 3
      · rw [if_pos g3] at h
        have c1 := lt_z h0 ha g3 (by decide)
        by_cases g44 : (T (a + 1)).1 = 44
        · rw [if_pos g44] at h
          have c2 := lt_z h0 (show a + 1 ≤ N by omega) g44 (by decide)
          exact pPars_le hN h0 f _ y (by show a + 2 ≤ N; omega) h
        · rw [if_neg g44] at h
          by_cases g41 : (T (a + 1)).1 = 41
          · rw [if_pos g41] at h
            have c2 := lt_z h0 (show a + 1 ≤ N by omega) g41 (by decide)
            cases h
            show a + 2 ≤ N
            omega
          · rw [if_neg g41] at h; cases h
      · rw [if_neg g3] at h; cases h
theorem pPars_6 {kq : Nat} : ∀ (f : Nat) (z y : PP), z.2.1.length ≤ 6 → pPars T kq f z = .inr y → y.2.1.length ≤ 6
  | 0, z, y, hz, h => by cases h
  | f + 1, z, y, hz, h => by
    unfold pPars at h
    by_cases g : tyS (T z.1).1 = true ∧ z.2.1.length = 6
    · rw [if_pos g] at h; cases h
    rw [if_neg g] at h
    cases hp : pType T z.1 with
    | inl e => rw [hp] at h; cases h
    | inr a =>
      rw [hp] at h
      dsimp only at h
      have l6 : ¬ z.2.1.length = 6 := fun e => g ⟨pType_S hp, e⟩
      have nl : (z.2.1 ++ [(z.1, a, tyK T z.1 (kq + z.2.2.length))]).length ≤ 6 := by rw [List.length_append, List.length_singleton]; omega
      by_cases g3 : (T a).1 = 3
      · rw [if_pos g3] at h
        by_cases g44 : (T (a + 1)).1 = 44
        · rw [if_pos g44] at h
          exact pPars_6 f _ y nl h
        · rw [if_neg g44] at h
          by_cases g41 : (T (a + 1)).1 = 41
          · rw [if_pos g41] at h
            cases h
            exact nl
          · rw [if_neg g41] at h; cases h
      · rw [if_neg g3] at h; cases h
theorem pMem_le {k c kq i0 : Nat} {r : PR} (hN : N ≤ 3000) (h0 : (T N).1 = 0) (hc : c ≤ N) (h : pMem T (N + 1) k c kq i0 = .inr r) : r.1 ≤ N := by
  unfold pMem at h
  by_cases e24 : k = 24
  · rw [if_pos e24] at h; cases h
  rw [if_neg e24] at h
  cases hp : pType T c with
  | inl e => rw [hp] at h; cases h
  | inr c1 =>
    rw [hp] at h
    dsimp only at h
    have h1 := pType_le hN h0 hc hp
    by_cases g3 : (T c1).1 = 3
    · rw [if_pos g3] at h
      have c2 := lt_z h0 h1 g3 (by decide)
      by_cases g59 : (T (c1 + 1)).1 = 59
      · rw [if_pos g59] at h
        have c3 := lt_z h0 (show c1 + 1 ≤ N by omega) g59 (by decide)
        cases h
        show c1 + 2 ≤ N
        omega
      · rw [if_neg g59] at h
        cases hq : pParams T (kq + (tyL T c).length) (c1 + 1) with
        | inl e => rw [hq] at h; cases h
        | inr y =>
          rw [hq] at h
          dsimp only at h
          have Y : y.1 ≤ N ∧ y.2.1.length ≤ 6 := by
            unfold pParams at hq
            by_cases g40 : (T (c1 + 1)).1 = 40
            · rw [if_pos g40] at hq
              have c3 := lt_z h0 (show c1 + 1 ≤ N by omega) g40 (by decide)
              by_cases g41 : (T (c1 + 1 + 1)).1 = 41
              · rw [if_pos g41] at hq
                have c4 := lt_z h0 (show c1 + 1 + 1 ≤ N by omega) g41 (by decide)
                cases hq
                exact ⟨by show c1 + 1 + 2 ≤ N; omega, by show 0 ≤ 6; omega⟩
              · rw [if_neg g41] at hq
                exact ⟨pPars_le hN h0 7 _ y (by show c1 + 1 + 1 ≤ N; omega) hq, pPars_6 7 _ y (by show 0 ≤ 6; omega) hq⟩
            · rw [if_neg g40] at hq; cases hq
          cases hz : prS T (N + 1) 30 0 1 y.1 y.2.1.length (kq + (tyL T c).length + y.2.2.length) i0 with
          | inl e => rw [hz] at h; cases h
          | inr z =>
            rw [hz] at h
            cases h
            exact prS_le hN h0 (Nat.le_refl _) Y.1 (by omega) hz
    · rw [if_neg g3] at h; cases h
/-- the MEMBERS of a CLASS -/
theorem pMems_ok (hN : N ≤ 3000) (h0 : (T N).1 = 0) {kq i0 : Nat} (hk0 : k0 ≤ 1000) (hkq : k0 ≤ kq) : ∀ (f : Nat) (z y : PM), pMems T (N + 1) kq i0 f z = .inr y → z.1 ≤ N → 4 * (kq + z.2.2.1.length) ≤ 4 * k0 + z.1 → i0 + z.2.2.2.1.length ≤ 2 * z.1 → z.2.1.length ≤ 24 → ∃ (rs : List RcM) (ka : List Nat) (oa : List Row) (ga : List (Nat × Nat)), y.2.1 = z.2.1 ++ rs.map (fun r => r.1) ∧ y.2.2.1 = z.2.2.1 ++ ka ∧ y.2.2.2.1 = z.2.2.2.1 ++ oa ∧ y.2.2.2.2 = z.2.2.2.2 ++ ga ∧ z.1 ≤ y.1 ∧ y.1 ≤ N ∧ agR z.1 y.1 ga ∧ 4 * (kq + y.2.2.1.length) ≤ 4 * k0 + y.1 ∧ i0 + y.2.2.2.1.length ≤ 2 * y.1 ∧ y.2.1.length ≤ 24 ∧ ∀ kt ot ag, KT kt (kq + z.2.2.1.length) ka → OT ot (i0 + z.2.2.2.1.length) oa → AGf ag ga → CHm T (N + 1) kt ot ag k0 z.1 rs y.1
  | 0, z, y, h, h1, h2, h3, h4 => by
    cases h
    exact ⟨[], [], [], [], (List.append_nil _).symm, (List.append_nil _).symm, (List.append_nil _).symm, (List.append_nil _).symm, Nat.le_refl _, h1, agR.nil, h2, h3, h4, fun _ _ _ _ _ _ => Nat.le_refl _⟩
  | f + 1, z, y, h, h1, h2, h3, h4 => by
    unfold pMems at h
    by_cases g : tyS (T z.1).1 = true
    · rw [if_pos g] at h
      cases hm : pMem T (N + 1) z.2.1.length z.1 (kq + z.2.2.1.length) (i0 + z.2.2.2.1.length) with
      | inl e => rw [hm] at h; cases h
      | inr r =>
        rw [hm] at h
        dsimp only at h
        have rl := pMem_le hN h0 h1 hm
        obtain ⟨a1, a2, a3, a4, a5, a6, ps, zb, a7⟩ := pMem_ok (k0 := k0) hm ⟨by omega, h2⟩ h3 ⟨by omega, hk0⟩ (by omega)
        obtain ⟨rs, ka, oa, ga, b1, b2, b3, b4, b5, b6, b7, b8, b9, b10, b11⟩ := pMems_ok hN h0 hk0 hkq f (r.1, z.2.1 ++ [r.2.1], z.2.2.1 ++ r.2.2.1, z.2.2.2.1 ++ r.2.2.2.1, z.2.2.2.2 ++ r.2.2.2.2) y h rl (by show 4 * (kq + (z.2.2.1 ++ r.2.2.1).length) ≤ 4 * k0 + r.1; rw [List.length_append]; omega) (by show i0 + (z.2.2.2.1 ++ r.2.2.2.1).length ≤ 2 * r.1; rw [List.length_append]; omega) (by show (z.2.1 ++ [r.2.1]).length ≤ 24; rw [List.length_append, List.length_singleton]; omega)
        dsimp only at b1 b2 b3 b4 b5 b7 b11
        refine ⟨(r.2.1, r.1, kq + z.2.2.1.length, ps, zb) :: rs, r.2.2.1 ++ ka, r.2.2.2.1 ++ oa, r.2.2.2.2 ++ ga, by rw [b1, List.append_assoc]; rfl, by rw [b2, List.append_assoc], by rw [b3, List.append_assoc], by rw [b4, List.append_assoc], by omega, b6, a4.app b7 (Nat.le_refl _) b5 (by omega), b8, b9, b10, fun kt ot ag k1 k2 k3 => ?_⟩
        have k1' := KT.app k1
        have k2' := OT.app k2
        have k3' := AGf.app k3
        refine ⟨by show z.1 ≤ r.2.1.1; omega, a7 kt ot ag k1'.1 k2'.1 k3'.1, ?_⟩
        refine b11 kt ot ag ?_ ?_ k3'.2
        · rw [List.length_append, ← Nat.add_assoc]; exact k1'.2
        · rw [List.length_append, ← Nat.add_assoc]; exact k2'.2
    · rw [if_neg g] at h
      cases h
      exact ⟨[], [], [], [], (List.append_nil _).symm, (List.append_nil _).symm, (List.append_nil _).symm, (List.append_nil _).symm, Nat.le_refl _, h1, agR.nil, h2, h3, h4, fun _ _ _ _ _ _ => Nat.le_refl _⟩
end MJA58
end
section
/-! ===== what was read of a TEXT: CLASSES, main ===== -/
/-- CLASSES one behind the other: head, MEMBERS -/
def CCh : Nat → List (HD × List RcM) → Nat → Prop
  | p, [], p' => p ≤ p'
  | p, E :: l, p' => ∃ q e, p ≤ E.1.1 ∧ E.1.1 < q ∧ (¬ E.1.2.2.1 = 0 → E.1.1 < E.1.2.2.1 ∧ E.1.2.2.1 < q) ∧ (∀ r, r ∈ E.2 → q ≤ r.1.1 ∧ r.2.1 ≤ e) ∧ q ≤ e ∧ CCh e l p'
def mmD (L : List CD) : List MD := (FL L).map (fun x => x.2)
section MJA59
variable {T : TT} {M N k0 : Nat}
theorem flat_snoc : ∀ (L : List CD) (b : Nat) (E : CD), flat b (L ++ [E]) = flat b L ++ E.2.map (fun md => (b + L.length, md))
  | [], b, E => by
    show E.2.map (fun md => (b, md)) ++ [] = [] ++ _
    rw [List.append_nil, List.nil_append]
    rfl
  | D :: L, b, E => by
    show D.2.map (fun md => (b, md)) ++ flat (b + 1) (L ++ [E]) = (D.2.map (fun md => (b, md)) ++ flat (b + 1) L) ++ _
    rw [flat_snoc L (b + 1) E, List.append_assoc, List.length_cons, show b + 1 + L.length = b + (L.length + 1) by omega]
theorem mmD_snoc (L : List CD) (E : CD) : mmD (L ++ [E]) = mmD L ++ E.2 := by
  unfold mmD FL
  rw [flat_snoc, List.map_append, List.map_map]
  congr 1
  exact (List.map_congr_left (fun _ _ => rfl)).trans (List.map_id _)
theorem mmD_at {L : List CD} {m : Nat} (h : m < nMem L) : (mmD L)[m]? = some (mdM L m) := by
  have hl : m < (FL L).length := by unfold FL; rw [flat_len]; exact h
  unfold mmD mdM
  rw [List.getElem?_map, List.getElem?_eq_getElem hl]
  rfl
theorem mmD_len (L : List CD) : (mmD L).length = nMem L := by unfold mmD FL; rw [List.length_map, flat_len]
theorem pClass_ok (hN : N ≤ 3000) (h0 : (T N).1 = 0) (hk0 : k0 ≤ 1000) {n c kq i0 : Nat} {r : Nat × CD × List Nat × List Row × List (Nat × Nat)} (hkq : k0 ≤ kq) (h : pClass T (N + 1) n c kq i0 = .inr r) (hc : c < N) (h2 : 4 * kq ≤ 4 * k0 + c) (h3 : i0 ≤ 2 * c) : ∃ rs : List RcM, r.2.1.2 = rs.map (fun r => r.1) ∧ HDk T N r.2.1.1 ∧ c < r.1 ∧ r.1 ≤ N ∧ agR c r.1 r.2.2.2.2 ∧ 4 * (kq + r.2.2.1.length) ≤ 4 * k0 + r.1 ∧ i0 + r.2.2.2.1.length ≤ 2 * r.1 ∧ (∃ q, c ≤ r.2.1.1.1 ∧ r.2.1.1.1 < q ∧ (¬ r.2.1.1.2.2.1 = 0 → r.2.1.1.1 < r.2.1.1.2.2.1 ∧ r.2.1.1.2.2.1 < q) ∧ (∀ x, x ∈ rs → q ≤ x.1.1 ∧ x.2.1 ≤ r.1) ∧ q ≤ r.1) ∧ ∀ kt ot ag, KT kt kq r.2.2.1 → OT ot i0 r.2.2.2.1 → AGf ag r.2.2.2.2 → CHm T (N + 1) kt ot ag k0 c rs r.1 := by
  unfold pClass at h
  cases hh : pHead T n c with
  | inl e => rw [hh] at h; cases h
  | inr hd =>
    rw [hh] at h
    dsimp only at h
    obtain ⟨a1, a2, a3, a4, a5, a6, a7⟩ := pHead_ok h0 hc hh
    cases hm : pMems T (N + 1) (kq + (hdK hd.2).length) i0 25 (hd.1, [], [], [], []) with
    | inl e => rw [hm] at h; cases h
    | inr z =>
      rw [hm] at h
      dsimp only at h
      obtain ⟨rs, ka, oa, ga, b1, b2, b3, b4, b5, b6, b7, b8, b9, b10, b11⟩ := pMems_ok (k0 := k0) hN h0 (kq := kq + (hdK hd.2).length) (i0 := i0) hk0 (by omega) 25 (hd.1, [], [], [], []) z hm a3 (by show 4 * (kq + (hdK hd.2).length + 0) ≤ 4 * k0 + hd.1; omega) (by show i0 + 0 ≤ 2 * hd.1; omega) (by show 0 ≤ 24; omega)
      dsimp only at b1 b2 b3 b4 b5 b7 b11
      rw [List.nil_append] at b1 b2 b3 b4
      by_cases g : (T z.1).1 = 125
      · rw [if_pos g] at h
        have c1 := lt_z h0 b6 g (by decide)
        cases h
        refine ⟨rs, b1, a1, by show c < z.1 + 1; omega, by show z.1 + 1 ≤ N; omega, ?_, ?_, by show i0 + z.2.2.2.1.length ≤ 2 * (z.1 + 1); omega, ⟨hd.1, by show c ≤ hd.2.1; omega, by show hd.2.1 < hd.1; omega, a7, fun x hx => ?_, by show hd.1 ≤ z.1 + 1; omega⟩, fun kt ot ag k1 k2 k3 => ?_⟩
        · show agR c (z.1 + 1) z.2.2.2.2
          rw [b4]
          exact b7.mono (by omega) (by omega)
        · show 4 * (kq + (hdK hd.2 ++ z.2.2.1).length) ≤ 4 * k0 + (z.1 + 1)
          rw [List.length_append]
          omega
        · obtain ⟨i, hi⟩ := List.mem_iff_getElem?.mp hx
          have t := b11 (ktL (kq + (hdK hd.2).length) ka) (fun i => (oa[i - i0]?).getD (0, 0, 0, 0, 0)) (rAg ga (fun _ => 0)) (by
            show KT _ (kq + (hdK hd.2).length + 0) ka
            exact KT_ex _ _ (by rw [b2] at b8; omega)) (by
            intro j r hj
            show (oa[i0 + 0 + j - i0]?).getD (0, 0, 0, 0, 0) = r
            rw [show i0 + 0 + j - i0 = j by omega, hj]
            rfl) (fun e he => rAg_m ga _ b7.2 e he)
          obtain ⟨_, u1, u2⟩ := t.at hi
          exact ⟨u1, by show x.2.1 ≤ z.1 + 1; omega⟩
        · have k1' := KT.app k1
          have t := b11 kt ot ag (by show KT kt (kq + (hdK hd.2).length + 0) ka; rw [← b2]; exact k1'.2) (by show OT ot (i0 + 0) oa; rw [← b3]; exact k2) (by rw [← b4]; exact k3)
          have l1 := CHm.lo (p0 := c) t (by omega)
          have l2 : CHm T (N + 1) kt ot ag k0 z.1 [] (z.1 + 1) := by show z.1 ≤ z.1 + 1; omega
          have l3 := CHm.app l1 l2
          rw [List.append_nil] at l3
          exact l3
      · rw [if_neg g] at h; cases h
theorem pClasses_ok (hN : N ≤ 3000) (h0 : (T N).1 = 0) (hk0 : k0 ≤ 1000) : ∀ (f : Nat) (z y : PC), pClasses T (N + 1) k0 f z = .inr y → z.1 ≤ N → 4 * z.2.2.1.length ≤ z.1 → z.2.2.2.1.length ≤ 2 * z.1 → (∀ (c : Nat) (E : CD), z.2.1[c]? = some E → HDk T N E.1) → ∃ (rs : List RcM) (ka : List Nat) (oa : List Row) (ga : List (Nat × Nat)), mmD y.2.1 = mmD z.2.1 ++ rs.map (fun r => r.1) ∧ y.2.2.1 = z.2.2.1 ++ ka ∧ y.2.2.2.1 = z.2.2.2.1 ++ oa ∧ y.2.2.2.2 = z.2.2.2.2 ++ ga ∧ z.1 ≤ y.1 ∧ y.1 ≤ N ∧ agR z.1 y.1 ga ∧ 4 * y.2.2.1.length ≤ y.1 ∧ y.2.2.2.1.length ≤ 2 * y.1 ∧ (∀ (c : Nat) (E : CD), y.2.1[c]? = some E → HDk T N E.1) ∧ (∃ ll : List (HD × List RcM), y.2.1 = z.2.1 ++ ll.map (fun E => (E.1, E.2.map (fun r => r.1))) ∧ rs = ll.flatMap (fun E => E.2) ∧ CCh z.1 ll y.1) ∧ ∀ kt ot ag, KT kt (k0 + z.2.2.1.length) ka → OT ot z.2.2.2.1.length oa → AGf ag ga → CHm T (N + 1) kt ot ag k0 z.1 rs y.1
  | 0, z, y, h, h1, h2, h3, h4 => by
    cases h
    exact ⟨[], [], [], [], (List.append_nil _).symm, (List.append_nil _).symm, (List.append_nil _).symm, (List.append_nil _).symm, Nat.le_refl _, h1, agR.nil, h2, h3, h4, ⟨[], (List.append_nil _).symm, rfl, Nat.le_refl _⟩, fun _ _ _ _ _ _ => Nat.le_refl _⟩
  | f + 1, z, y, h, h1, h2, h3, h4 => by
    unfold pClasses at h
    by_cases g : (T z.1).1 = 5
    · rw [if_pos g] at h
      have c1 := lt_z h0 h1 g (by decide)
      cases hm : pClass T (N + 1) z.2.1.length z.1 (k0 + z.2.2.1.length) z.2.2.2.1.length with
      | inl e => rw [hm] at h; cases h
      | inr r =>
        rw [hm] at h
        dsimp only at h
        obtain ⟨r1, a1, a2, a3, a4, a5, a6, a7, ⟨q1, aq⟩, a8⟩ := pClass_ok (k0 := k0) hN h0 hk0 (by omega) hm c1 (by omega) h3
        obtain ⟨rs, ka, oa, ga, b1, b2, b3, b4, b5, b6, b7, b8, b9, b10, ⟨ll, l1, l2, l3⟩, b11⟩ := pClasses_ok hN h0 hk0 f (r.1, z.2.1 ++ [r.2.1], z.2.2.1 ++ r.2.2.1, z.2.2.2.1 ++ r.2.2.2.1, z.2.2.2.2 ++ r.2.2.2.2) y h a4 (by show 4 * (z.2.2.1 ++ r.2.2.1).length ≤ r.1; rw [List.length_append]; omega) (by show (z.2.2.2.1 ++ r.2.2.2.1).length ≤ 2 * r.1; rw [List.length_append]; omega) (by
          intro c E hc
          have hc' : (z.2.1 ++ [r.2.1])[c]? = some E := hc
          by_cases hl : c < z.2.1.length
          · rw [List.getElem?_append_left hl] at hc'
            exact h4 c E hc'
          · have hi := (List.getElem?_eq_some_iff.mp hc').1
            rw [List.length_append, List.length_singleton] at hi
            rw [show c = z.2.1.length by omega, List.getElem?_append_right (Nat.le_refl _), Nat.sub_self] at hc'
            have e : r.2.1 = E := by simpa using hc'
            rw [← e]
            exact a2)
        dsimp only at b1 b2 b3 b4 b5 b7 b11
        refine ⟨r1 ++ rs, r.2.2.1 ++ ka, r.2.2.2.1 ++ oa, r.2.2.2.2 ++ ga, by rw [b1, mmD_snoc, a1, List.append_assoc, List.map_append], by rw [b2, List.append_assoc], by rw [b3, List.append_assoc], by rw [b4, List.append_assoc], by omega, b6, a5.app b7 (Nat.le_refl _) b5 (by omega), b8, b9, b10, ⟨(r.2.1.1, r1) :: ll, ?_, by rw [l2]; rfl, q1, r.1, aq.1, aq.2.1, aq.2.2.1, aq.2.2.2.1, aq.2.2.2.2, l3⟩, fun kt ot ag k1 k2 k3 => ?_⟩
        · rw [l1]
          show z.2.1 ++ [r.2.1] ++ _ = z.2.1 ++ ((r.2.1.1, r1.map (fun r => r.1)) :: _)
          rw [← a1, List.append_assoc]
          rfl
        have k1' := KT.app k1
        have k2' := OT.app k2
        have k3' := AGf.app k3
        refine CHm.app (a8 kt ot ag k1'.1 k2'.1 k3'.1) (b11 kt ot ag ?_ ?_ k3'.2)
        · rw [List.length_append, ← Nat.add_assoc]; exact k1'.2
        · rw [List.length_append]; exact k2'.2
    · rw [if_neg g] at h
      cases h
      exact ⟨[], [], [], [], (List.append_nil _).symm, (List.append_nil _).symm, (List.append_nil _).symm, (List.append_nil _).symm, Nat.le_refl _, h1, agR.nil, h2, h3, h4, ⟨[], (List.append_nil _).symm, rfl, Nat.le_refl _⟩, fun _ _ _ _ _ _ => Nat.le_refl _⟩
/-- main, as it was read: its first KIND kb -/
def MNk (T : TT) (N : Nat) (kt : Int32 → Nat) (ot : Nat → Row) (ag : Nat → Int32) (t : PT) (kb : Nat) (z : PB) : Prop := prS T (N + 1) 30 0 0 t.2.1.1 0 kb t.2.2.2.2.2 = .inr z ∧ z.2.1 = t.2.1.2 ∧ z.1 ≤ N ∧ KT kt kb z.2.2.1 ∧ OT ot t.2.2.2.2.2 (z.2.2.2.1 ++ [oOver]) ∧ AGf ag z.2.2.2.2
theorem pText_ok (hN : N ≤ 3000) (h0 : (T N).1 = 0) (hk0 : k0 ≤ 1000) {t : PT} (h : pText T (N + 1) k0 = .inr t) : ∃ (rs : List RcM) (kb : Nat) (z : PB), mmD t.1 = rs.map (fun r => r.1) ∧ (∀ (c : Nat) (E : CD), t.1[c]? = some E → HDk T N E.1) ∧ t.2.2.2.2.1.Pairwise (fun x y => ¬ x.1 = y.1) ∧ 4 * t.2.2.1.length ≤ N ∧ t.2.2.2.1.length ≤ 2 * N + 1 ∧ 1 ≤ t.2.1.1 ∧ t.2.1.1 ≤ N ∧ 4 * kb ≤ 4 * k0 + t.2.1.1 ∧ t.2.2.2.2.2 ≤ 2 * t.2.1.1 ∧ (k0 ≤ kb) ∧ (∃ ll : List (HD × List RcM), t.1 = ll.map (fun E => (E.1, E.2.map (fun r => r.1))) ∧ rs = ll.flatMap (fun E => E.2) ∧ CCh 0 ll (t.2.1.1 - 1)) ∧ ∀ kt ot ag, KT kt k0 t.2.2.1 → OT ot 0 t.2.2.2.1 → AGf ag t.2.2.2.2.1 → CHm T (N + 1) kt ot ag k0 0 rs (t.2.1.1 - 1) ∧ MNk T N kt ot ag t kb z := by
  unfold pText at h
  cases hc : pClasses T (N + 1) k0 17 (0, [], [], [], []) with
  | inl e => rw [hc] at h; cases h
  | inr y =>
    rw [hc] at h
    dsimp only at h
    obtain ⟨rs, ka, oa, ga, b1, b2, b3, b4, b5, b6, b7, b8, b9, b10, ⟨ll, l1, l2, l3⟩, b11⟩ := pClasses_ok hN h0 hk0 17 (0, [], [], [], []) y hc (Nat.zero_le _) (by show 4 * 0 ≤ 0; omega) (by show 0 ≤ 2 * 0; omega) (fun c E hc => by cases hc)
    dsimp only at b1 b2 b3 b4 b5 b7 b11
    rw [List.nil_append] at b2 b3 b4
    by_cases g9 : (T y.1).1 = 9
    · rw [if_pos g9] at h
      have c1 := lt_z h0 b6 g9 (by decide)
      cases hs : prS T (N + 1) 30 0 0 (y.1 + 1) 0 (k0 + y.2.2.1.length) y.2.2.2.1.length with
      | inl e => rw [hs] at h; cases h
      | inr z =>
        rw [hs] at h
        dsimp only at h
        obtain ⟨s1, s2, s3, s4⟩ := prS_ln 30 0 0 _ _ _ _ z (by omega) hs
        have zN := prS_le hN h0 (Nat.zero_le _) (show y.1 + 1 ≤ N by omega) (Nat.zero_le _) hs
        by_cases g0 : (T z.1).1 = 0
        · rw [if_pos g0] at h
          cases h
          refine ⟨rs, k0 + y.2.2.1.length, z, b1, b10, ?_, ?_, ?_, by show 1 ≤ y.1 + 1; omega, by show y.1 + 1 ≤ N; omega, by show 4 * (k0 + y.2.2.1.length) ≤ 4 * k0 + (y.1 + 1); omega, by show y.2.2.2.1.length ≤ 2 * (y.1 + 1); omega, by omega, ⟨ll, by rw [l1]; rfl, l2, l3⟩, fun kt ot ag k1 k2 k3 => ⟨?_, hs, rfl, zN, ?_, ?_, ?_⟩⟩
          · show (y.2.2.2.2 ++ z.2.2.2.2).Pairwise _
            rw [b4]
            exact (b7.app s2 (by omega) (by omega) (by omega)).2
          · show 4 * (y.2.2.1 ++ z.2.2.1).length ≤ N
            rw [List.length_append]
            omega
          · show (y.2.2.2.1 ++ z.2.2.2.1 ++ [oOver]).length ≤ 2 * N + 1
            rw [List.length_append, List.length_append, List.length_singleton]
            omega
          · show CHm T (N + 1) kt ot ag k0 0 rs (y.1 + 1 - 1)
            have k1' : KT kt k0 (y.2.2.1 ++ z.2.2.1) := k1
            have k2' : OT ot 0 (y.2.2.2.1 ++ z.2.2.2.1 ++ [oOver]) := k2
            have k3' : AGf ag (y.2.2.2.2 ++ z.2.2.2.2) := k3
            exact b11 kt ot ag (by rw [← b2]; exact (KT.app k1').1) (by rw [← b3]; exact (OT.app (OT.app k2').1).1) (by rw [← b4]; exact (AGf.app k3').1)
          · have k1' : KT kt k0 (y.2.2.1 ++ z.2.2.1) := k1
            exact (KT.app k1').2
          · have k2' : OT ot 0 (y.2.2.2.1 ++ z.2.2.2.1 ++ [oOver]) := k2
            rw [List.append_assoc] at k2'
            have := (OT.app k2').2
            rw [Nat.zero_add] at this
            exact this
          · have k3' : AGf ag (y.2.2.2.2 ++ z.2.2.2.2) := k3
            exact (AGf.app k3').2
        · rw [if_neg g0] at h; cases h
    · rw [if_neg g9] at h; cases h
end MJA59
end
section
/-! ===== the class's keys against the names ===== -/
section MJA60
variable {tx : Nat → Int32} {n N : Nat} {s s' : mjSt3}
theorem holds_end : ∀ (l : List (Int32 × Nat × Int64)) (m : Nat) (t : Int32 × Nat × Int64), holdsT s m (l ++ [t]) → s.2.1 62 (m + l.length) = t.2.2
  | [], m, t, h => h.1.2.2.1
  | x :: l, m, t, h => by
    have := holds_end l (m + 1) t h.2
    rw [List.length_cons, show m + (l.length + 1) = m + 1 + l.length by omega]
    exact this
theorem rN_pos {g : Int32 → Nat} {l : List Int32} (h : ∀ b ∈ l, 1 ≤ g b) (hl : 0 < l.length) : 1 ≤ rN g l := by
  cases l with
  | nil => simp at hl
  | cons b l =>
    have := h b List.mem_cons_self
    show 1 ≤ rN g l * 64 + g b
    omega
theorem nm_let (hb : ∀ i, i < n → byR (tx i)) {k : Nat} (h : nk (tD tx n k).1) : (∀ b ∈ (tD tx n k).2.1, isW b) ∧ (tD tx n k).2.1.length ≤ 10 ∧ 0 < (tD tx n k).2.1.length := by
  unfold tD at h ⊢
  by_cases g : tS tx n k < n
  · rw [if_pos g] at h ⊢
    have lb := kd_lb g hb h
    have n1 : ¬ (t1 tx n (tS tx n k)).1 = 1 := fun e => by
      rcases h with h | h <;> · rw [e] at h; exact absurd h (by decide)
    rcases t1_kind g hb with ⟨_, _, a⟩ | ⟨a, _⟩
    · refine ⟨(a n1).1, (a n1).2, ?_⟩
      have adv := (t1_adv g hb).1
      unfold t1 at adv n1 ⊢
      rw [if_pos lb] at adv n1 ⊢
      by_cases u : (scL tx (n - tS tx n k) [] (tS tx n k)).2 - tS tx n k ≤ 10
      · rw [if_pos u] at adv ⊢
        have e := scL_len (tx := tx) (n - tS tx n k) [] (tS tx n k)
        have e0 : ([] : List Int32).length = 0 := rfl
        dsimp only at adv ⊢
        omega
      · rw [if_neg u] at n1
        exact absurd rfl n1
    · exact absurd lb a
  · rw [if_neg g] at h
    exact absurd (show (0 : Int32) = 2 ∨ (0 : Int32) = 3 from h) (by decide)
theorem lN_ne {l : List Int32} (h1 : ∀ b ∈ l, isW b) (h2 : l.length ≤ 10) (h3 : 0 < l.length) : ¬ lN (rN gC l) = 0 := by
  have p := rN_pos (fun b hb => (cd_of (h1 b hb)).1.1) h3
  have a := rN_lt (P := isW) (g := gC) (fun b hb => (cd_of hb).1) l h1
  have b : 64 ^ l.length ≤ 64 ^ 10 := Nat.pow_le_pow_right (by decide) h2
  have c : (64 : Nat) ^ 10 < 2 ^ 63 := by decide
  intro e
  have k : (lN (rN gC l)).toInt = (0 : Int64).toInt := by rw [e]
  rw [pk_lT (by omega)] at k
  have z : (0 : Int64).toInt = 0 := by decide
  omega
theorem cut_KY (hn : n ≤ 3000) (hw : ∀ i, i < 16 → s.2.1 59 i = lN (rN gC (wdL.getD i []))) (hb : ∀ i, i < n → byR (s.1 1 i)) (h : cutS s s' n) : ∃ N, N ≤ n ∧ TH (mTT (s.1 1) n) N s' ∧ KY (mTT (s.1 1) n) N s' := by
  have h' := h
  obtain ⟨h1, _, _, _, h5, _, _, _⟩ := h'
  have k := holds_tok (s := s') hw hb n 0 0 (by omega) h5
  simp only [Nat.zero_add] at k
  have lN' : (cToks s n).length ≤ n := by
    have := toks_len (s.1 1) (s.2.1 59) n n (skB (s.1 1) n false 0)
    have q := (skB_le (s.1 1) n false 0).2
    unfold cToks
    omega
  have z := holds_end (s := s') (cToks s n) 0 (0, n, 0) h5
  rw [Nat.zero_add] at z
  obtain ⟨k1, k2, k3⟩ := k
  have e0 : (tD (s.1 1) n (cToks s n).length).1 = 0 := by
    unfold tD
    rw [if_neg (by have : tS (s.1 1) n (cToks s n).length = n := k2; omega)]
  refine ⟨(cToks s n).length, lN', ⟨h1, by omega, e0, fun j hj => ⟨(k3 j hj).1, (k3 j hj).2.1⟩⟩, z, fun j hj hk => ?_, fun i j hi hj ki kj => ?_, fun j hj hk => (k3 j hj).2.2.2 hk⟩
  · have a := nm_let hb (k := j) hk
    rw [(k3 j hj).2.2.1 hk]
    exact lN_ne a.1 a.2.1 a.2.2
  · have a := nm_let hb (k := i) ki
    have b := nm_let hb (k := j) kj
    rw [(k3 i hi).2.2.1 ki, (k3 j hj).2.2.1 kj]
    exact same_key a.1 b.1 a.2.1 b.2.1
end MJA60
end
section
/-! ===== Program.clear ===== -/
/-- behind clear: program q is empty -/
def CLR (q : Nat) (s s' : mjSt3) : Prop := s'.1 q 0 = 0 ∧ s'.1 (q + 14) 0 = 0 ∧ s'.1 (q + 24) 3 = 0 ∧ (∀ j, j < 16 → s'.1 (q + 1) j = 0 ∧ s'.1 (q + 3) j = 0 ∧ s'.1 (q + 5) j = -1 ∧ s'.1 (q + 6) j = 0 ∧ s'.1 (q + 7) j = 0 ∧ s'.1 (q + 8) j = 0 ∧ s'.1 (q + 10) j = 0) ∧ (∀ j, j < 112 → s'.1 (q + 11) j = 0) ∧ (∀ j, j < 256 → s'.1 (q + 12) j = -1) ∧ (∀ j, j < 96 → s'.2.1 (q + 13) j = 0) ∧ (∀ k, k < 385 → s'.1 (q + 18) k = b2 (decide (k = 384)) ∧ s'.1 (q + 20) k = 0) ∧ s'.1 (q + 16) 384 = -1 ∧ s'.1 (q + 17) 384 = -1 ∧ (∀ h, ¬ (q ≤ h ∧ h ≤ q + 27) → s'.1 h = s.1 h) ∧ (∀ h, ¬ h = q + 13 → s'.2.1 h = s.2.1 h) ∧ s'.2.2 = s.2.2
section MJA61
variable {q d : Nat} {s : mjSt3}
theorem y377 (hq : isP q) {k N : Nat} {v : Int32} (h2 : T_0[2 + k]? = some (.inl (0, N, false))) (h3 : T_0[30 + k]? = some (.inl (0, N, false))) (hN : N < 100000) : mjF (d + 1) 377 [.ref (q + k), .int v] (mjW0 s) = some (none, mjW0 (uI s (q + k) (fillF (s.1 (q + k)) 0 N v))) := by
  rcases hq with rfl | rfl
  · exact q_377 h2 hN
  · exact q_377 h3 hN
theorem y378 (hq : isP q) {k N : Nat} {v : Int64} (h2 : T_0[2 + k]? = some (.inl (1, N, true))) (h3 : T_0[30 + k]? = some (.inl (1, N, true))) (hN : N < 100000) : mjF (d + 1) 378 [.ref (q + k), .long v] (mjW0 s) = some (none, mjW0 (uL s (q + k) (fillG (s.2.1 (q + k)) 0 N v))) := by
  rcases hq with rfl | rfl
  · exact q_378 h2 hN
  · exact q_378 h3 hN
theorem fillF_in {f : Nat → Int32} {N j : Nat} {v : Int32} (h : j < N) : fillF f 0 N v j = v := if_pos ⟨Nat.zero_le _, h⟩
theorem fillG_in {f : Nat → Int64} {N j : Nat} {v : Int64} (h : j < N) : fillG f 0 N v j = v := if_pos ⟨Nat.zero_le _, h⟩
/-- Members.clear -/
theorem x_96 (hq : isP q) : ∃ s', mjF (d + 1) 96 [.ref (q + 14)] (mjW0 s) = some (none, mjW0 s') ∧ s'.1 (q + 14) 0 = 0 ∧ (∀ k, k < 385 → s'.1 (q + 18) k = b2 (decide (k = 384)) ∧ s'.1 (q + 20) k = 0) ∧ s'.1 (q + 16) 384 = -1 ∧ s'.1 (q + 17) 384 = -1 ∧ (∀ h, ¬ h = q + 14 → ¬ h = q + 16 → ¬ h = q + 17 → ¬ h = q + 18 → ¬ h = q + 20 → s'.1 h = s.1 h) ∧ s'.2 = s.2 := by
  obtain ⟨s', a1, a2, a3, a4, a5, a6, a7⟩ := lq_96 hq (mjF d) 385 0 mjN (uI s (q + 14) (upd (s.1 (q + 14)) 0 0)) (by omega) (by have := mjN_v; omega)
  refine ⟨s', ?_, ?_, fun k hk => a2 k (Nat.zero_le _) hk, a4, a5, fun h h1 h2 h3 h4 h5 => by rw [a6 h h2 h3 h4 h5, uI_ne _ _ _ _ h1], a7⟩
  · rw [e_96]
    unfold f_96 b_96_0
    rw [ymp_0 hq]
    exact a1
  · rw [a6 _ (by omega) (by omega) (by omega) (by omega), uI_same]
    rfl
/-- Program.clear -/
theorem x_101 (hq : isP q) : ∃ s', mjF (d + 2) 101 [.ref q] (mjW0 s) = some (none, mjW0 s') ∧ CLR q s s' := by
  obtain ⟨z0, h0⟩ : ∃ z, z = uI s q (upd (s.1 q) 0 0) := ⟨_, rfl⟩
  obtain ⟨y1, h1⟩ : ∃ z, z = uI z0 (q + 1) (fillF (z0.1 (q + 1)) 0 16 0) := ⟨_, rfl⟩
  obtain ⟨y3, h3⟩ : ∃ z, z = uI y1 (q + 3) (fillF (y1.1 (q + 3)) 0 16 0) := ⟨_, rfl⟩
  obtain ⟨y5, h5⟩ : ∃ z, z = uI y3 (q + 5) (fillF (y3.1 (q + 5)) 0 16 (-1)) := ⟨_, rfl⟩
  obtain ⟨y6, h6⟩ : ∃ z, z = uI y5 (q + 6) (fillF (y5.1 (q + 6)) 0 16 0) := ⟨_, rfl⟩
  obtain ⟨y7, h7⟩ : ∃ z, z = uI y6 (q + 7) (fillF (y6.1 (q + 7)) 0 16 0) := ⟨_, rfl⟩
  obtain ⟨y8, h8⟩ : ∃ z, z = uI y7 (q + 8) (fillF (y7.1 (q + 8)) 0 16 0) := ⟨_, rfl⟩
  obtain ⟨y10, h10⟩ : ∃ z, z = uI y8 (q + 10) (fillF (y8.1 (q + 10)) 0 16 0) := ⟨_, rfl⟩
  obtain ⟨y11, h11⟩ : ∃ z, z = uI y10 (q + 11) (fillF (y10.1 (q + 11)) 0 112 0) := ⟨_, rfl⟩
  obtain ⟨y12, h12⟩ : ∃ z, z = uI y11 (q + 12) (fillF (y11.1 (q + 12)) 0 256 (-1)) := ⟨_, rfl⟩
  obtain ⟨yL, hL⟩ : ∃ z, z = uL y12 (q + 13) (fillG (y12.2.1 (q + 13)) 0 96 0) := ⟨_, rfl⟩
  obtain ⟨w, a1, a2, a3, a4, a5, a6, a7⟩ := x_96 (d := d) (s := yL) hq
  obtain ⟨s', hs⟩ : ∃ z, z = uI w (q + 24) (upd (w.1 (q + 24)) 3 0) := ⟨_, rfl⟩
  have hq' : q = 2 ∨ q = 30 := hq
  have top : ∀ h, ¬ h = q + 14 → ¬ h = q + 16 → ¬ h = q + 17 → ¬ h = q + 18 → ¬ h = q + 20 → ¬ h = q + 24 → s'.1 h = yL.1 h := fun h b1 b2 b3 b4 b5 b6 => by rw [hs, uI_ne _ _ _ _ b6, a6 h b1 b2 b3 b4 b5]
  have yl : yL.1 = y12.1 := by rw [hL]; rfl
  have r1 : ∀ j, j < 16 → s'.1 (q + 1) j = 0 := fun j hj => by rw [top _ (by omega) (by omega) (by omega) (by omega) (by omega) (by omega), yl, h12, uI_ne _ _ _ _ (by omega), h11, uI_ne _ _ _ _ (by omega), h10, uI_ne _ _ _ _ (by omega), h8, uI_ne _ _ _ _ (by omega), h7, uI_ne _ _ _ _ (by omega), h6, uI_ne _ _ _ _ (by omega), h5, uI_ne _ _ _ _ (by omega), h3, uI_ne _ _ _ _ (by omega), h1, uI_same, fillF_in hj]
  have r3 : ∀ j, j < 16 → s'.1 (q + 3) j = 0 := fun j hj => by rw [top _ (by omega) (by omega) (by omega) (by omega) (by omega) (by omega), yl, h12, uI_ne _ _ _ _ (by omega), h11, uI_ne _ _ _ _ (by omega), h10, uI_ne _ _ _ _ (by omega), h8, uI_ne _ _ _ _ (by omega), h7, uI_ne _ _ _ _ (by omega), h6, uI_ne _ _ _ _ (by omega), h5, uI_ne _ _ _ _ (by omega), h3, uI_same, fillF_in hj]
  have r5 : ∀ j, j < 16 → s'.1 (q + 5) j = (-1) := fun j hj => by rw [top _ (by omega) (by omega) (by omega) (by omega) (by omega) (by omega), yl, h12, uI_ne _ _ _ _ (by omega), h11, uI_ne _ _ _ _ (by omega), h10, uI_ne _ _ _ _ (by omega), h8, uI_ne _ _ _ _ (by omega), h7, uI_ne _ _ _ _ (by omega), h6, uI_ne _ _ _ _ (by omega), h5, uI_same, fillF_in hj]
  have r6 : ∀ j, j < 16 → s'.1 (q + 6) j = 0 := fun j hj => by rw [top _ (by omega) (by omega) (by omega) (by omega) (by omega) (by omega), yl, h12, uI_ne _ _ _ _ (by omega), h11, uI_ne _ _ _ _ (by omega), h10, uI_ne _ _ _ _ (by omega), h8, uI_ne _ _ _ _ (by omega), h7, uI_ne _ _ _ _ (by omega), h6, uI_same, fillF_in hj]
  have r7 : ∀ j, j < 16 → s'.1 (q + 7) j = 0 := fun j hj => by rw [top _ (by omega) (by omega) (by omega) (by omega) (by omega) (by omega), yl, h12, uI_ne _ _ _ _ (by omega), h11, uI_ne _ _ _ _ (by omega), h10, uI_ne _ _ _ _ (by omega), h8, uI_ne _ _ _ _ (by omega), h7, uI_same, fillF_in hj]
  have r8 : ∀ j, j < 16 → s'.1 (q + 8) j = 0 := fun j hj => by rw [top _ (by omega) (by omega) (by omega) (by omega) (by omega) (by omega), yl, h12, uI_ne _ _ _ _ (by omega), h11, uI_ne _ _ _ _ (by omega), h10, uI_ne _ _ _ _ (by omega), h8, uI_same, fillF_in hj]
  have r10 : ∀ j, j < 16 → s'.1 (q + 10) j = 0 := fun j hj => by rw [top _ (by omega) (by omega) (by omega) (by omega) (by omega) (by omega), yl, h12, uI_ne _ _ _ _ (by omega), h11, uI_ne _ _ _ _ (by omega), h10, uI_same, fillF_in hj]
  have r11 : ∀ j, j < 112 → s'.1 (q + 11) j = 0 := fun j hj => by rw [top _ (by omega) (by omega) (by omega) (by omega) (by omega) (by omega), yl, h12, uI_ne _ _ _ _ (by omega), h11, uI_same, fillF_in hj]
  have r12 : ∀ j, j < 256 → s'.1 (q + 12) j = (-1) := fun j hj => by rw [top _ (by omega) (by omega) (by omega) (by omega) (by omega) (by omega), yl, h12, uI_same, fillF_in hj]
  have r0 : s'.1 q 0 = 0 := by rw [top _ (by omega) (by omega) (by omega) (by omega) (by omega) (by omega), yl, h12, uI_ne _ _ _ _ (by omega), h11, uI_ne _ _ _ _ (by omega), h10, uI_ne _ _ _ _ (by omega), h8, uI_ne _ _ _ _ (by omega), h7, uI_ne _ _ _ _ (by omega), h6, uI_ne _ _ _ _ (by omega), h5, uI_ne _ _ _ _ (by omega), h3, uI_ne _ _ _ _ (by omega), h1, uI_ne _ _ _ _ (by omega), h0, uI_same]; rfl
  have ro : ∀ h, ¬ (q ≤ h ∧ h ≤ q + 27) → s'.1 h = s.1 h := fun h hh => by rw [top _ (by omega) (by omega) (by omega) (by omega) (by omega) (by omega), yl, h12, uI_ne _ _ _ _ (by omega), h11, uI_ne _ _ _ _ (by omega), h10, uI_ne _ _ _ _ (by omega), h8, uI_ne _ _ _ _ (by omega), h7, uI_ne _ _ _ _ (by omega), h6, uI_ne _ _ _ _ (by omega), h5, uI_ne _ _ _ _ (by omega), h3, uI_ne _ _ _ _ (by omega), h1, uI_ne _ _ _ _ (by omega), h0, uI_ne _ _ _ _ (by omega)]
  have el : y12.2 = s.2 := by rw [h12, h11, h10, h8, h7, h6, h5, h3, h1, h0]; rfl
  have es : s'.2 = yL.2 := by rw [hs]; exact a7
  refine ⟨s', ?_, r0, ?_, by rw [hs, uI_same]; rfl, fun j hj => ⟨r1 j hj, r3 j hj, r5 j hj, r6 j hj, r7 j hj, r8 j hj, r10 j hj⟩, r11, r12, fun j hj => ?_, fun k hk => ?_, ?_, ?_, ro, fun h hh => ?_, ?_⟩
  · rw [e_101]
    unfold f_101 b_101_0
    rw [yp_0 hq, ← h0]
    rw [yg_1 hq, y377 (k := 1) (N := 16) hq rfl rfl (by omega), ← h1, bN_s]
    rw [yg_3 hq, y377 (k := 3) (N := 16) hq rfl rfl (by omega), ← h3, bN_s]
    rw [yg_5 hq, y377 (k := 5) (N := 16) hq rfl rfl (by omega), ← h5, bN_s]
    rw [yg_6 hq, y377 (k := 6) (N := 16) hq rfl rfl (by omega), ← h6, bN_s]
    rw [yg_7 hq, y377 (k := 7) (N := 16) hq rfl rfl (by omega), ← h7, bN_s]
    rw [yg_8 hq, y377 (k := 8) (N := 16) hq rfl rfl (by omega), ← h8, bN_s]
    rw [yg_10 hq, y377 (k := 10) (N := 16) hq rfl rfl (by omega), ← h10, bN_s]
    rw [yg_11 hq, y377 (k := 11) (N := 112) hq rfl rfl (by omega), ← h11, bN_s]
    rw [yg_12 hq, y377 (k := 12) (N := 256) hq rfl rfl (by omega), ← h12, bN_s]
    rw [yg_13 hq, y378 (k := 13) (N := 96) hq rfl rfl (by omega), ← hL, bN_s, yg_14 hq, ymV hq, a1, bN_s, yg_15 hq, ycp_3 hq, ← hs]
  · rw [hs, uI_ne _ _ _ _ (by omega)]; exact a2
  · rw [es, hL]
    show (uL y12 (q + 13) (fillG (y12.2.1 (q + 13)) 0 96 0)).2.1 (q + 13) j = 0
    rw [uL_same, fillG_in hj]
  · rw [hs, uI_ne _ _ _ _ (by omega), uI_ne _ _ _ _ (by omega)]; exact a3 k hk
  · rw [hs, uI_ne _ _ _ _ (by omega)]; exact a4
  · rw [hs, uI_ne _ _ _ _ (by omega)]; exact a5
  · rw [es, hL]
    show (uL y12 (q + 13) (fillG (y12.2.1 (q + 13)) 0 96 0)).2.1 h = _
    rw [uL_ne _ _ _ _ hh, el]
  · rw [es, hL]
    show y12.2.2 = s.2.2
    rw [el]
end MJA61
end
section
/-! ===== what the judges stand on, out of what was read ===== -/
def otL (d : Row) (l : List Row) (i : Nat) : Row := (l[i]?).getD d
theorem OT_ex (d : Row) (l : List Row) : OT (otL d l) 0 l := by
  intro j r hj
  unfold otL
  rw [Nat.zero_add, hj]
  rfl
/-- the records of a TEXT that was read -/
def TRc (T : TT) (N k0 : Nat) (t : PT) (rs : List RcM) (kb : Nat) (z : PB) : Prop := mmD t.1 = rs.map (fun r => r.1) ∧ (∀ (c : Nat) (E : CD), t.1[c]? = some E → HDk T N E.1) ∧ t.2.2.2.2.1.Pairwise (fun x y => ¬ x.1 = y.1) ∧ 4 * t.2.2.1.length ≤ N ∧ t.2.2.2.1.length ≤ 2 * N + 1 ∧ 1 ≤ t.2.1.1 ∧ t.2.1.1 ≤ N ∧ 4 * kb ≤ 4 * k0 + t.2.1.1 ∧ t.2.2.2.2.2 ≤ 2 * t.2.1.1 ∧ k0 ≤ kb ∧ ∀ kt ot ag, KT kt k0 t.2.2.1 → OT ot 0 t.2.2.2.1 → AGf ag t.2.2.2.2.1 → CHm T (N + 1) kt ot ag k0 0 rs (t.2.1.1 - 1) ∧ MNk T N kt ot ag t kb z
/-- the CLASSES' places -/
def TRx (t : PT) (rs : List RcM) : Prop := ∃ ll : List (HD × List RcM), t.1 = ll.map (fun E => (E.1, E.2.map (fun r => r.1))) ∧ rs = ll.flatMap (fun E => E.2) ∧ CCh 0 ll (t.2.1.1 - 1)
section MJA62
variable {T : TT} {N k0 q kb m : Nat} {t : PT} {rs : List RcM} {z : PB} {s s' : mjSt3}
theorem TRc_of (hN : N ≤ 3000) (h0 : (T N).1 = 0) (hk0 : k0 ≤ 1000) (h : pText T (N + 1) k0 = .inr t) : ∃ rs kb z, TRc T N k0 t rs kb z ∧ TRx t rs := by
  obtain ⟨rs, kb, z, a1, a2, a3, a4, a5, a6, a7, a8, a9, a10, al, a11⟩ := pText_ok hN h0 hk0 h
  exact ⟨rs, kb, z, ⟨a1, a2, a3, a4, a5, a6, a7, a8, a9, a10, a11⟩, al⟩
/-- the record of MEMBER m -/
theorem TRc.at (R : TRc T N k0 t rs kb z) (hm : m < nMem t.1) : ∃ r : RcM, rs[m]? = some r ∧ r.1 = mdM t.1 m := by
  have e := mmD_at hm
  rw [R.1, List.getElem?_map] at e
  cases h : rs[m]? with
  | none => rw [h] at e; cases e
  | some r =>
    rw [h] at e
    exact ⟨r, rfl, by simpa using e⟩
theorem TRc.mok (R : TRc T N k0 t rs kb z) {kt : Int32 → Nat} {ot : Nat → Row} {ag : Nat → Int32} (hk : KT kt k0 t.2.2.1) (ho : OT ot 0 t.2.2.2.1) (ha : AGf ag t.2.2.2.2.1) {r : RcM} (hr : rs[m]? = some r) : MOK T (N + 1) kt ot ag k0 r.1 r.2.1 r.2.2.1 r.2.2.2.1 r.2.2.2.2 ∧ r.2.1 < t.2.1.1 := by
  obtain ⟨a, b⟩ := R.2.2.2.2.2.2.2.2.2.2 kt ot ag hk ho ha
  obtain ⟨c, d, e⟩ := a.at hr
  have := R.2.2.2.2.2.1
  exact ⟨c, by omega⟩
theorem TRc.kex (R : TRc T N k0 t rs kb z) (hN : N ≤ 3000) (hk0 : k0 ≤ 1000) : KT (ktL k0 t.2.2.1) k0 t.2.2.1 := KT_ex _ _ (by have := R.2.2.2.1; omega)
theorem AGf_ex (l : List (Nat × Nat)) (h : l.Pairwise (fun x y => ¬ x.1 = y.1)) (ag : Nat → Int32) : AGf (rAg l ag) l := fun e he => rAg_m l ag h e he
theorem TRc.hn0 (R : TRc T N k0 t rs kb z) (h16 : t.1.length ≤ 16) : HN T N t.1 := by
  refine ⟨h16, fun c hc => ?_⟩
  obtain ⟨D, hD⟩ : ∃ D, t.1[c]? = some D := ⟨_, List.getElem?_eq_getElem hc⟩
  have e : hC t.1 c = D.1 := by unfold hC; rw [hD]
  rw [e]
  exact (R.2.1 c D hD).1
theorem TRc.pfi (R : TRc T N k0 t rs kb z) : PFi T N t.1 := by
  intro c hc
  obtain ⟨D, hD⟩ : ∃ D, t.1[c]? = some D := ⟨_, List.getElem?_eq_getElem hc⟩
  have e : hC t.1 c = D.1 := by unfold hC; rw [hD]
  rw [e]
  exact (R.2.1 c D hD).2
theorem TRc.pfm (R : TRc T N k0 t rs kb z) (hN : N ≤ 3000) (hk0 : k0 ≤ 1000) (h0 : (T N).1 = 0) : PFm T N t.1 := by
  intro m hm
  obtain ⟨r, hr, er⟩ := R.at hm
  obtain ⟨⟨m1, m2, m3, m4, m5, m6, m7, m8⟩, en⟩ := R.mok (R.kex hN hk0) (OT_ex (0, 0, 0, 0, 0) _) (AGf_ex _ R.2.2.1 (fun _ => 0)) hr
  rw [← er]
  have tN := R.2.2.2.2.2.2.1
  obtain ⟨k1, k2⟩ := pType_ok h0 (show r.1.1 ≤ N by omega) m1
  refine ⟨k1, k2.symm, m2, by omega, ?_, ?_⟩
  · rcases m8 with ⟨_, b, _⟩ | ⟨_, _, _, b, _, _, b6, _⟩
    · rw [b]; show 0 ≤ 6; omega
    · rw [b]; exact b6
  · rcases m8 with ⟨_, b, _⟩ | ⟨_, _, _, b, _, bp, b6, _, bz, be, _⟩
    · intro i p hi
      rw [b] at hi
      cases hi
    · intro i p hi
      rw [b] at hi ⊢
      have hz := (prS_ln 30 0 1 _ _ _ _ _ (by omega) bz).1
      rcases bp with ⟨_, bn⟩ | bp
      · rw [bn] at hi; cases hi
      · obtain ⟨p1, p2, p3, p4, p5, _⟩ := bp.2.2.2.2 i p hi
        obtain ⟨k3, k4⟩ := pType_ok h0 (show p.1 ≤ N by omega) p1
        refine ⟨k3, k4.symm, p2, by omega, ?_⟩
        rw [p3]
        cases i with
        | zero => rfl
        | succ j => rfl
/-- what the reader leaves is what the judges stand on -/
theorem RD0_of (R : TRc T N k0 t rs kb z) (hk0 : k0 ≤ 1000) {ag : Nat → Int32} (hR : RD T N q s' t ag) (hK : KY T N s) (o : offL q s s') (c5 : ∀ j, j < 16 → s.1 (q + 5) j = -1 ∧ s.1 (q + 8) j = 0) (c11 : ∀ j, j < 112 → s.1 (q + 11) j = 0) (c12 : ∀ j, j < 256 → s.1 (q + 12) j = -1) (c13 : ∀ j, j < 96 → s.2.1 (q + 13) j = 0) : RD0 T N q t.1 s' := by
  obtain ⟨hT, hQ, hC, h16, h24, h70, h22, h63, h7, cu, hcu, h6⟩ := hR
  have hq' : q = 2 ∨ q = 30 := hQ.1
  obtain ⟨i1, i2, ⟨i3, i4⟩, i5⟩ := hC
  have hb := CI.bound h24
  have hN := R.hn0 h16
  have orow : ∀ h, h = q + 5 ∨ h = q + 8 ∨ h = q + 11 ∨ h = q + 12 → s'.1 h = s.1 h := fun h hh => o.1 h (by omega) (by omega)
  have mem : ∀ m, m < nMem t.1 → ∃ c D k, t.1[c]? = some D ∧ D.2[k]? = some (mdM t.1 m) ∧ m = nMem (t.1.take c) + k ∧ hmM t.1 m = c ∧ c < t.1.length ∧ MF q c m (cntB (mdM t.1 m).2.2.1 (D.2.take k)) s' (mdM t.1 m) := by
    intro m hm
    obtain ⟨c, D, k, e1, e2, e3, e4⟩ := FL_ex hm
    refine ⟨c, D, k, e1, e2, e3, e4, (List.getElem?_eq_some_iff.mp e1).1, ?_⟩
    have := (i5 c D e1).2.2.2.2 k _ e2
    rw [← e3] at this
    exact this
  refine ⟨⟨hT, hK.lr (o.2.1 62 (by omega) trivial), hN, hQ.1, ?_, i1⟩, ?_, ⟨?_, i2, by omega, ?_, ?_⟩, ⟨R.pfi, R.pfm hT.2.1 hk0 hT.2.2.1⟩, ?_, ?_, ?_, ?_, ?_⟩
  · intro c hc
    by_cases hl : c < t.1.length
    · obtain ⟨D, hD⟩ : ∃ D, t.1[c]? = some D := ⟨_, List.getElem?_eq_getElem hl⟩
      have e : nmL t.1 c = D.1.2.1 := by unfold nmL hC; rw [hD]
      rw [e]
      exact ⟨(i5 c D hD).1.2.2.2.1, (R.2.1 c D hD).1.2.2.2.1⟩
    · have e : nmL t.1 c = 0 := by unfold nmL hC; rw [List.getElem?_eq_none (by omega)]
      rw [e]
      exact ⟨(i3 c (by omega) hc).1, by omega⟩
  · intro c hl
    obtain ⟨D, hD⟩ : ∃ D, t.1[c]? = some D := ⟨_, List.getElem?_eq_getElem hl⟩
    have e : hC t.1 c = D.1 := by unfold hC; rw [hD]
    rw [e]
    obtain ⟨f1, f2, f3, f4, f5, f6, f7⟩ := (i5 c D hD).1
    exact ⟨f2, f5, f7⟩
  · intro c hl
    obtain ⟨D, hD⟩ : ∃ D, t.1[c]? = some D := ⟨_, List.getElem?_eq_getElem hl⟩
    have e : mcL t.1 c = D.2.length := by unfold mcL; rw [hD]
    rw [e]
    exact ⟨(i5 c D hD).1.1, (i5 c D hD).2.1⟩
  · intro c hl
    obtain ⟨D, hD⟩ : ∃ D, t.1[c]? = some D := ⟨_, List.getElem?_eq_getElem hl⟩
    have e : mcL t.1 c = D.2.length := by unfold mcL; rw [hD]
    rw [e]
    exact ⟨h24 c D hD, nMem_take hD⟩
  · intro m hm
    obtain ⟨c, D, k, e1, e2, e3, e4, e5, f1, f2, f3, f4, f5, f6, f7, f8⟩ := mem m hm
    rw [e4]
    refine ⟨f1, e5, f2, f3, f4, ?_, f7⟩
    rw [f5]
    rfl
  · intro j hj
    refine ⟨by rw [orow _ (by omega)]; exact (c5 j hj).1, by rw [orow _ (by omega)]; exact (c5 j hj).2, ?_, ?_⟩
    · by_cases hl : j < t.1.length
      · obtain ⟨D, hD⟩ : ∃ D, t.1[j]? = some D := ⟨_, List.getElem?_eq_getElem hl⟩
        have e : inL t.1 j = D.1.2.2.2.2 := by unfold inL hC; rw [hD]
        rw [e]
        exact (i5 j D hD).1.2.2.2.2.2.1
      · have e : inL t.1 j = 0 := by unfold inL hC; rw [List.getElem?_eq_none (by omega)]
        rw [e]
        exact (i3 j (by omega) hj).2.1
    · by_cases hl : j < t.1.length
      · obtain ⟨D, hD⟩ : ∃ D, t.1[j]? = some D := ⟨_, List.getElem?_eq_getElem hl⟩
        have e : oflL t.1 j = cntB false D.2 := by unfold oflL; rw [hD]
        rw [e]
        exact (i5 j D hD).2.2.2.1
      · have e : oflL t.1 j = 0 := by unfold oflL; rw [List.getElem?_eq_none (by omega)]
        rw [e]
        exact (i3 j (by omega) hj).2.2.2.1
  · intro j hj; rw [orow _ (by omega)]; exact c11 j hj
  · intro j hj; rw [orow _ (by omega)]; exact c12 j hj
  · intro j hj; rw [o.2.1 (q + 13) (by omega) trivial]; exact c13 j hj
  · intro m hm
    obtain ⟨c, D, k, e1, e2, e3, e4, e5, f1, f2, f3, f4, f5, f6, f7, f8⟩ := mem m hm
    rw [f6]
    unfold nuM mSM
    rw [e4, e1]
    have e : m - fmL t.1 c = k := by unfold fmL; omega
    rw [e]
end MJA62
end
section
/-! ===== what the Coder asks of the METHODS ===== -/
def isMT (L : List CD) (m : Nat) : Bool := decide (m = 384) || (decide (m < nMem L) && mSM L m)
def EmT (T : TT) (L : List CD) (tr : Bool) (kt : Int32 → Nat) (m : Nat) : EV := if m = 384 then (T, L, tr, kt, none, 0, fun _ => 0) else (T, L, tr, kt, some (hmM L m), tyM T L m, fun _ => 0)
def btT (t : PT) (m : Nat) : Nat := if m = 384 then t.2.1.1 else (mdM t.1 m).2.2.2.2.1
def i0T (t : PT) (m : Nat) : Nat := if m = 384 then t.2.2.2.2.2 else (mdM t.1 m).2.2.2.2.2.2.1
def vnT (t : PT) (m : Nat) : Nat := if m = 384 then t.2.1.2 else (mdM t.1 m).2.2.2.2.2.1
def npT (L : List CD) (m : Nat) : Nat := if m = 384 then 0 else (psM L m).length
def jmT (T : TT) (L : List CD) (m : Nat) : JS := ([], [], (if m = 384 then [] else pvs T L m (psM L m).length), npT L m, 0, (0, 0), 0, [])
def enR (rs : List RcM) (m : Nat) : Nat := match rs[m]? with
  | some r => r.2.1
  | none => 0
/-- a METHOD's first KIND in its BLOCK; its BLOCK -/
def kqT (T : TT) (rs : List RcM) (kb m : Nat) : Nat := if m = 384 then kb else match rs[m]? with
  | some r => r.2.2.1 + (tyL T r.1.1).length + r.2.2.2.1.2.2.length
  | none => 0
def zT (rs : List RcM) (z : PB) (m : Nat) : PB := if m = 384 then z else match rs[m]? with
  | some r => r.2.2.2.2
  | none => z
def SBk (k0 : Nat) (ks : List Nat) (kq : Nat) (l : List Nat) : Prop := k0 ≤ kq ∧ ∀ (j t : Nat), l[j]? = some t → ks[kq - k0 + j]? = some t
def SBo (os : List Row) (i : Nat) (l : List Row) : Prop := ∀ (j : Nat) (r : Row), l[j]? = some r → os[i + j]? = some r
/-- a METHOD's BLOCK, as it was read -/
def MBk (T : TT) (N k0 : Nat) (t : PT) (rs : List RcM) (m kq : Nat) (z : PB) : Prop := (∃ o, o ≤ 1 ∧ prS T (N + 1) 30 0 o (btT t m) (npT t.1 m) kq (i0T t m) = .inr z) ∧ z.2.1 = vnT t m ∧ SBk k0 t.2.2.1 kq z.2.2.1 ∧ SBo t.2.2.2.1 (i0T t m) (z.2.2.2.1 ++ [oOver]) ∧ (∀ ag, AGf ag t.2.2.2.2.1 → AGf ag z.2.2.2.2) ∧ (btT t m < z.1 ∧ z.1 ≤ N) ∧ kq + z.2.2.1.length ≤ 10000 ∧ i0T t m + z.2.2.2.1.length ≤ 20000 ∧ (¬ m = 384 → z.1 = enR rs m ∧ (mdM t.1 m).1 < btT t m)
section MJA63
variable {T : TT} {N k0 q kb m D : Nat} {t : PT} {rs : List RcM} {z : PB} {s s' : mjSt3} {tr : Bool}
theorem isMT_384 (L : List CD) : isMT L 384 = true := rfl
theorem isMT_lt {L : List CD} (h : isMT L m = true) (hm : ¬ m = 384) : m < nMem L ∧ mSM L m = true := by
  unfold isMT at h
  rw [decide_eq_false hm, Bool.false_or, Bool.and_eq_true] at h
  exact ⟨of_decide_eq_true h.1, h.2⟩
theorem sbk_of {ks l : List Nat} {kq : Nat} (hb : k0 + ks.length ≤ 100000) (h0 : k0 ≤ kq) (hl : kq + l.length ≤ 100000) (h : ∀ kt, KT kt k0 ks → KT kt kq l) : SBk k0 ks kq l := by
  refine ⟨h0, fun j t hj => ?_⟩
  have hj' := (List.getElem?_eq_some_iff.mp hj).1
  have A : ∀ d : Nat, (ks[kq - k0 + j]?).getD d = t := by
    intro d
    have := h (fun a => (ks[nN a - k0]?).getD d) (fun i u hi => by
      have hi' := (List.getElem?_eq_some_iff.mp hi).1
      dsimp only
      rw [nN_nI (by omega), show k0 + i - k0 = i by omega, hi]
      rfl) j t hj
    dsimp only at this
    rw [nN_nI (by omega), show kq + j - k0 = kq - k0 + j by omega] at this
    exact this
  cases hx : ks[kq - k0 + j]? with
  | some u =>
    have := A 0
    rw [hx] at this
    exact congrArg some this
  | none =>
    have a0 := A 0
    have a1 := A 1
    rw [hx] at a0 a1
    rw [← a0] at a1
    cases a1
theorem sbo_of {os l : List Row} {i : Nat} (h : ∀ ot, OT ot 0 os → OT ot i l) : SBo os i l := by
  intro j r hj
  have A : ∀ d : Row, (os[i + j]?).getD d = r := fun d => h (otL d os) (OT_ex d os) j r hj
  cases hx : os[i + j]? with
  | some u =>
    have := A (0, 0, 0, 0, 0)
    rw [hx] at this
    exact congrArg some this
  | none =>
    have a0 := A (0, 0, 0, 0, 0)
    have a1 := A (1, 0, 0, 0, 0)
    rw [hx] at a0 a1
    have e : ((0, 0, 0, 0, 0) : Row) = (1, 0, 0, 0, 0) := a0.trans a1.symm
    exact absurd (congrArg Prod.fst e) (show ¬ ((0 : Int32) = 1) by decide)
theorem SBk.kt {ks l : List Nat} {kq : Nat} (hb : k0 + ks.length ≤ 100000) (h : SBk k0 ks kq l) : KT (ktL k0 ks) kq l := by
  intro j t hj
  have := h.2 j t hj
  have hj' := (List.getElem?_eq_some_iff.mp this).1
  have h0 := h.1
  unfold ktL
  rw [nN_nI (by omega), show kq + j - k0 = kq - k0 + j by omega, this]
  rfl
theorem MBk_ex (R : TRc T N k0 t rs kb z) (hk0 : k0 ≤ 1000) (hN : N ≤ 3000) : ∀ m, m ≤ 384 → isMT t.1 m = true → MBk T N k0 t rs m (kqT T rs kb m) (zT rs z m) := by
  intro m hm im
  have r4 := R.2.2.2.1
  have r7 := R.2.2.2.2.2.2.1
  have KE := R.kex hN hk0
  have OE := OT_ex (0, 0, 0, 0, 0) t.2.2.2.1
  have AE := AGf_ex t.2.2.2.2.1 R.2.2.1 (fun _ => 0)
  by_cases e : m = 384
  · obtain ⟨c1, m1, m2, m3, m4, m5, m6⟩ := R.2.2.2.2.2.2.2.2.2.2 _ _ _ KE OE AE
    obtain ⟨l1, l2, l3, l4⟩ := prS_ln 30 0 0 _ _ _ _ z (by omega) m1
    have r8 := R.2.2.2.2.2.2.2.1
    have r9 := R.2.2.2.2.2.2.2.2.1
    have r10 := R.2.2.2.2.2.2.2.2.2.1
    have e1 : btT t m = t.2.1.1 := if_pos e
    have e2 : i0T t m = t.2.2.2.2.2 := if_pos e
    have e3 : vnT t m = t.2.1.2 := if_pos e
    have e4 : npT t.1 m = 0 := if_pos e
    have e5 : kqT T rs kb m = kb := if_pos e
    have e6 : zT rs z m = z := if_pos e
    unfold MBk
    rw [e1, e2, e3, e4, e5, e6]
    refine ⟨⟨0, by omega, m1⟩, m2, sbk_of (by omega) r10 (by omega) (fun kt hk => (R.2.2.2.2.2.2.2.2.2.2 kt _ _ hk OE AE).2.2.2.2.1), sbo_of (fun ot ho => (R.2.2.2.2.2.2.2.2.2.2 _ ot _ KE ho AE).2.2.2.2.2.1), (fun ag ha => (R.2.2.2.2.2.2.2.2.2.2 _ _ ag KE OE ha).2.2.2.2.2.2), ⟨l1, m3⟩, by omega, by omega, fun h => absurd e h⟩
  · obtain ⟨g1, g2⟩ := isMT_lt im e
    obtain ⟨r, hr, er⟩ := R.at g1
    obtain ⟨⟨m1, m2, m3, m4, m5, m6, m7, m8⟩, en⟩ := R.mok KE OE AE hr
    have ag : ∀ kt ot ag, KT kt k0 t.2.2.1 → OT ot 0 t.2.2.2.1 → AGf ag t.2.2.2.2.1 → KT kt (r.2.2.1 + (tyL T r.1.1).length + r.2.2.2.1.2.2.length) r.2.2.2.2.2.2.1 ∧ OT ot r.1.2.2.2.2.2.2.1 (r.2.2.2.2.2.2.2.1 ++ [oOver]) ∧ AGf ag r.2.2.2.2.2.2.2.2 := by
      intro kt ot ag k1 k2 k3
      obtain ⟨⟨_, _, _, _, _, _, _, w⟩, _⟩ := R.mok k1 k2 k3 hr
      rcases w with ⟨b, _⟩ | ⟨_, _, _, _, _, _, _, _, _, _, _, w1, w2, w3, _, _⟩
      · rw [er] at b
        unfold mSM at g2
        rw [b] at g2
        cases g2
      · exact ⟨w1, w2, w3⟩
    rcases m8 with ⟨b, _⟩ | ⟨b, b0, b1, b2, b3, b4, b5, b6, b7, b8, b9, b10, b11, b12, b13, b14⟩
    · rw [er] at b
      unfold mSM at g2
      rw [b] at g2
      cases g2
    · obtain ⟨l1, l2, l3, l4⟩ := prS_ln 30 0 1 _ _ _ _ _ (by omega) b7
      have e1 : btT t m = r.2.2.2.1.1 := by
        show (if m = 384 then t.2.1.1 else (mdM t.1 m).2.2.2.2.1) = _
        rw [if_neg e, ← er]
        exact b3
      have e2 : i0T t m = r.1.2.2.2.2.2.2.1 := by
        show (if m = 384 then t.2.2.2.2.2 else (mdM t.1 m).2.2.2.2.2.2.1) = _
        rw [if_neg e, ← er]
      have e3 : vnT t m = r.1.2.2.2.2.2.1 := by
        show (if m = 384 then t.2.1.2 else (mdM t.1 m).2.2.2.2.2.1) = _
        rw [if_neg e, ← er]
      have e4 : npT t.1 m = r.2.2.2.1.2.1.length := by
        show (if m = 384 then 0 else (psM t.1 m).length) = _
        rw [if_neg e]
        unfold psM
        rw [← er, b2]
      have e5 : enR rs m = r.2.1 := by unfold enR; rw [hr]
      have e6 : kqT T rs kb m = r.2.2.1 + (tyL T r.1.1).length + r.2.2.2.1.2.2.length := by
        unfold kqT
        rw [if_neg e, hr]
      have e7 : zT rs z m = r.2.2.2.2 := by
        unfold zT
        rw [if_neg e, hr]
      unfold MBk
      rw [e1, e2, e3, e4, e5, e6, e7]
      refine ⟨⟨1, by omega, b7⟩, b9, sbk_of (by omega) (by omega) (by omega) (fun kt hk => (ag kt _ _ hk OE AE).1), sbo_of (fun ot ho => (ag _ ot _ KE ho AE).2.1), (fun ag' ha => (ag _ _ ag' KE OE ha).2.2), ⟨l1, by omega⟩, by omega, by omega, fun _ => ⟨b8, by rw [← er]; omega⟩⟩
theorem j_goA (hT : TH T N s) {c : Nat} (f : fne s c) (hc : c ≤ N) (v : Int32) {d : Nat} : ∃ s' c', mjF (d + 1) 179 [.ref 58, .int v] (mjW0 s) = some (none, mjW0 s') ∧ o58 s s' ∧ fne s' c' ∧ c' ≤ N := by
  have hN := hT.2.1
  by_cases h1 : v < 0
  · refine ⟨s, c, ?_, offG.rf, f, hc⟩
    rw [e_179]
    unfold f_179 b_179_0
    rw [xg_58_7, f.2, if_pos rfl, if_pos h1]
  · by_cases h2 : nI (N + 1) ≤ v
    · refine ⟨s, c, ?_, offG.rf, f, hc⟩
      rw [e_179]
      unfold f_179 b_179_0
      rw [xg_58_7, f.2, if_pos rfl, if_neg h1, xg_58_5, hT.1, if_pos h2]
    · obtain ⟨t, ht, hv⟩ : ∃ t, t ≤ N ∧ v = nI t := by
        have a1 : 0 ≤ v.toInt := by
          have := Int32.not_lt.mp h1
          exact Int32.le_iff_toInt_le.mp this
        have a2 : v.toInt < (nI (N + 1)).toInt := Int32.lt_iff_toInt_lt.mp (Int32.not_le.mp h2)
        rw [nI_toInt (by omega)] at a2
        refine ⟨v.toInt.toNat, by omega, ?_⟩
        apply Int32.toInt_inj.mp
        rw [nI_toInt (by omega)]
        omega
      rw [hv]
      exact ⟨_, t, j_go hT f hc ht, o58.go _ _, f.go _, ht⟩
/-- main has no PARAMS, whatever stands at its NAME -/
theorem x_5n {L : List CD} (C : CB T N q L tr s) {c d : Nat} (f : fne s c) (hc : c ≤ N) (h20 : s.1 (q + 20) 384 = 0) : ∃ s' c', mjF (d + 3) 5 [.ref 75, .int (nI 384)] (mjW0 s) = some (none, mjW0 s') ∧ VSr T N L [] 0 s' ∧ oSt q s s' ∧ fne s' c' ∧ c' ≤ N ∧ (∀ h, ¬ h = 58 → ¬ h = 75 → s'.1 h = s.1 h) := by
  have hq' : q = 2 ∨ q = 30 := C.pq
  obtain ⟨s1, a1, a2, a3, a4, a5⟩ := z_75 (T := T) (N := N) (L := L) (q := q) s
  have C1 := C.oC a3.C
  have f1 : fne s1 c := ⟨by rw [a4 58 (by decide)]; exact f.1, by rw [a4 58 (by decide)]; exact f.2⟩
  obtain ⟨s2, c2, b1, xg, b3, b4⟩ := j_goA (d := d + 1) C1.1.1.1 f1 hc (s1.1 69 384 + 2)
  have C2 := C1.oC xg.C
  refine ⟨s2, c2, ?_, a2.oE C.pq xg.oe, a3.tr xg.S, b3, b4, fun h h1 h2 => by rw [xg.r h1, a4 h h2]⟩
  have e20 : s2.1 (q + 20) 384 = 0 := by rw [xg.r (by omega), a4 _ (by omega)]; exact h20
  rw [e_5]
  unfold f_5 b_5_0
  rw [a1, xg_75_0, xg_75_1, xg_64_7, wa_69 (by omega), xV_58, b1, bN_s, show mjN = 99999999 + 1 from rfl, L5_S]
  unfold b_5_30
  rw [xg_75_4, C2.2.2.2.2.2.2.1, ymg_6 C.pq, wya_20 C.pq (by omega), e20, if_pos (Int32.le_refl _)]
theorem VD_T {L : List CD} : ∀ (n : Nat) (e : VE), e ∈ pvs T L m n → e.2.2.2 = 0
  | 0, e, h => by cases h
  | n + 1, e, h => by
    rcases List.mem_append.mp h with k | k
    · exact VD_T n e k
    · have : e = (kyT T (pnT L m n), pyT T L m n, n, 0) := by simpa using k
      rw [this]
/-- MBm out of what was read and judged -/
theorem MBm_of (R : TRc T N k0 t rs kb z) (hD : 2 ≤ D) (hk0 : k0 ≤ 1000) (hN : N ≤ 3000) (ha : AGf (s.1 63) t.2.2.2.2.1) (hn : HN T N t.1) (h18 : ∀ m, m ≤ 384 → s.1 (q + 18) m = b2 (isMT t.1 m)) (h16 : ∀ m, m < nMem t.1 → s.1 (q + 16) m = nI (hmM t.1 m) ∧ hmM t.1 m < t.1.length) (h16m : s.1 (q + 16) 384 = -1) (h17 : ∀ m, m < nMem t.1 → s.1 (q + 17) m = tyI (tyM T t.1 m)) (h17m : s.1 (q + 17) 384 = -1) (h70 : ∀ m, m < nMem t.1 → mSM t.1 m = true → s.1 70 m = nI (btT t m)) (h70m : s.1 70 384 = nI t.2.1.1) (h20 : s.1 (q + 20) 384 = 0) : MBm N q D (isMT t.1) (EmT T t.1 tr (ktL k0 t.2.2.1)) (btT t) (kqT T rs kb) (i0T t) (zT rs z) (jmT T t.1) s := by
  have hF := MBk_ex R hk0 hN
  refine fun m hm => ⟨h18 m hm, fun im => ?_⟩
  obtain ⟨⟨o, ho, k1⟩, k2, k3, k4, k5, ⟨k6, k6'⟩, k7, k8, k9⟩ := hF m hm im
  have E0 : ∀ x, (EmT T t.1 tr (ktL k0 t.2.2.1) x).1 = T ∧ (EmT T t.1 tr (ktL k0 t.2.2.1) x).2.1 = t.1 ∧ (EmT T t.1 tr (ktL k0 t.2.2.1) x).2.2.1 = tr ∧ (EmT T t.1 tr (ktL k0 t.2.2.1) x).2.2.2.1 = ktL k0 t.2.2.1 := by
    intro x
    unfold EmT
    by_cases e : x = 384
    · rw [if_pos e]; exact ⟨rfl, rfl, rfl, rfl⟩
    · rw [if_neg e]; exact ⟨rfl, rfl, rfl, rfl⟩
  obtain ⟨E1, E2, E3, E4⟩ := E0 m
  obtain ⟨G1, G2, G3, G4⟩ := E0 384
  have bN : btT t m ≤ N := by omega
  refine ⟨by rw [E1, G1], by rw [E2, G2], by rw [E3, G3], ?_, ?_, ?_, ?_, ?_, bN, ?_, ⟨30, o, by omega, by rw [E1]; exact k1⟩, by rw [E4]; exact k3.kt (by have := R.2.2.2.1; omega), k5 _ ha, by omega, by omega, ?_, k6', ?_⟩
  · by_cases e : m = 384
    · subst e; exact h16m
    · obtain ⟨g1, g2⟩ := isMT_lt im e
      rw [show (EmT T t.1 tr (ktL k0 t.2.2.1) m).2.2.2.2.1 = some (hmM t.1 m) by unfold EmT; rw [if_neg e]]
      exact (h16 m g1).1
  · intro c hc
    rw [E2]
    by_cases e : m = 384
    · subst e; cases hc
    · obtain ⟨g1, g2⟩ := isMT_lt im e
      rw [show (EmT T t.1 tr (ktL k0 t.2.2.1) m).2.2.2.2.1 = some (hmM t.1 m) by unfold EmT; rw [if_neg e]] at hc
      cases hc
      exact (h16 m g1).2
  · by_cases e : m = 384
    · subst e; exact h17m
    · obtain ⟨g1, g2⟩ := isMT_lt im e
      rw [show (EmT T t.1 tr (ktL k0 t.2.2.1) m).2.2.2.2.2.1 = tyM T t.1 m by unfold EmT; rw [if_neg e]]
      exact h17 m g1
  · rw [E2]
    by_cases e : m = 384
    · subst e; exact Or.inl rfl
    · obtain ⟨g1, g2⟩ := isMT_lt im e
      rw [show (EmT T t.1 tr (ktL k0 t.2.2.1) m).2.2.2.2.2.1 = tyM T t.1 m by unfold EmT; rw [if_neg e]]
      exact ty_v hn (fun c hc => by cases hc; exact (h16 m g1).2)
  · by_cases e : m = 384
    · subst e; exact h70m
    · obtain ⟨g1, g2⟩ := isMT_lt im e
      exact h70 m g1 g2
  · intro e he
    show e.2.2.2 ≤ 0
    have he' : e ∈ (if m = 384 then [] else pvs T t.1 m (psM t.1 m).length) := he
    by_cases g : m = 384
    · rw [if_pos g] at he'; cases he'
    · rw [if_neg g] at he'
      rw [VD_T _ e he']
      exact Nat.le_refl _
  · intro m' h1 h2 im'
    have e : ¬ m = 384 := by omega
    obtain ⟨g1, g2⟩ := isMT_lt im e
    obtain ⟨r, hr, er⟩ := R.at g1
    have e5 : enR rs m = r.2.1 := by unfold enR; rw [hr]
    rw [(k9 e).1, e5]
    by_cases e' : m' = 384
    · subst e'
      have := (R.mok (R.kex hN hk0) (OT_ex (0, 0, 0, 0, 0) _) ha hr).2
      show r.2.1 ≤ t.2.1.1
      omega
    · obtain ⟨g1', g2'⟩ := isMT_lt im' e'
      obtain ⟨r', hr', er'⟩ := R.at g1'
      have := (R.2.2.2.2.2.2.2.2.2.2 _ _ (s.1 63) (R.kex hN hk0) (OT_ex (0, 0, 0, 0, 0) _) ha).1.lt h1 hr hr'
      rw [er'] at this
      have := ((hF m' h2 im').2.2.2.2.2.2.2.2 e').2
      omega
  · intro s2 c C o2 f hc
    rw [G1, G2, G3] at C
    rw [G1, G2]
    have hq' : q = 2 ∨ q = 30 := C.pq
    by_cases e : m = 384
    · subst e
      obtain ⟨d, rfl⟩ : ∃ d, D = d + 2 := ⟨D - 2, by omega⟩
      obtain ⟨s5, c5, x1, x2, x3, x4, x5, x6⟩ := x_5n (d := d) C f hc (by rw [o2.r (by omega)]; exact h20)
      exact ⟨s5, c5, x1, x2, x3, x4, x5, fun h a1 a2 _ _ => x6 h a1 a2⟩
    · obtain ⟨g1, g2⟩ := isMT_lt im e
      obtain ⟨d, rfl⟩ : ∃ d, D = d + 2 := ⟨D - 2, by omega⟩
      obtain ⟨s5, x1, x2, x3, x4, x5, x6⟩ := x_5 (d := d) g1 C f hc
      refine ⟨s5, _, x1, ?_, x3, x4, x5, x6⟩
      show VSr T N t.1 (if m = 384 then [] else pvs T t.1 m (psM t.1 m).length) (npT t.1 m) s5
      rw [if_neg e, show npT t.1 m = (psM t.1 m).length from if_neg e]
      exact x2
end MJA63
end
section
/-! ===== takeSpare; the end of load ===== -/
/-- a new PROGRAM is taken -/
def TKS (s s' : mjSt3) : Prop := (s'.2.2 0 6 = s.2.2 0 7 ∧ s'.2.2 0 7 = s.2.2 0 6 ∧ ∀ h j, ¬ (h = 0 ∧ (j = 6 ∨ j = 7)) → s'.2.2 h j = s.2.2 h j) ∧ s'.2.1 = s.2.1 ∧ s'.1 0 8 = 1 ∧ (∀ j, j = 6 ∨ j = 8 ∨ j = 9 ∨ j = 10 ∨ j = 12 ∨ j = 13 → s'.1 82 j = 0) ∧ s'.1 82 11 = -1 ∧ (s'.1 83 0 = 0 ∧ s'.1 83 1 = 0) ∧ (s'.1 79 2 = 0 ∧ s'.1 79 3 = 0 ∧ s'.1 79 4 = 0) ∧ s'.1 91 5 = 0 ∧ ∀ h j, ¬ ((h = 0 ∧ j = 8) ∨ (h = 82 ∧ 6 ≤ j ∧ j ≤ 13) ∨ (h = 83 ∧ j ≤ 1) ∨ (h = 79 ∧ 2 ≤ j ∧ j ≤ 4) ∨ (h = 91 ∧ j = 5)) → s'.1 h j = s.1 h j
section MJA64
variable {d : Nat} {s : mjSt3}
theorem x_42 (v : Int32) : ∃ s', mjF (d + 1) 42 [.ref 79, .int v] (mjW0 s) = some (none, mjW0 s') ∧ s'.1 79 2 = 0 ∧ s'.1 79 3 = 0 ∧ s'.1 79 4 = v ∧ (∀ h j, ¬ (h = 79 ∧ 2 ≤ j ∧ j ≤ 4) → s'.1 h j = s.1 h j) ∧ s'.2 = s.2 := by
  obtain ⟨z1, h1⟩ : ∃ z, z = uI s 79 (upd (s.1 79) 2 0) := ⟨_, rfl⟩
  obtain ⟨z2, h2⟩ : ∃ z, z = uI z1 79 (upd (z1.1 79) 3 0) := ⟨_, rfl⟩
  obtain ⟨z3, h3⟩ : ∃ z, z = uI z2 79 (upd (z2.1 79) 4 v) := ⟨_, rfl⟩
  have g : ∀ j, z3.1 79 j = if j = 4 then v else if j = 3 then 0 else if j = 2 then 0 else s.1 79 j := fun j => by
    rw [h3, uI_same, upd_g, h2, uI_same, upd_g, h1, uI_same, upd_g]
  refine ⟨z3, ?_, by rw [g]; rfl, by rw [g]; rfl, by rw [g]; rfl, fun h j hj => ?_, by rw [h3, h2, h1]; rfl⟩
  · rw [e_42]
    unfold f_42 b_42_0
    rw [xp_79_2, ← h1, xp_79_3, ← h2, xp_79_4, ← h3]
  · by_cases e : h = 79
    · subst e
      rw [g, if_neg (by omega), if_neg (by omega), if_neg (by omega)]
    · rw [h3, uI_ne _ _ _ _ e, h2, uI_ne _ _ _ _ e, h1, uI_ne _ _ _ _ e]
/-- Machine.drop -/
theorem x_73 : ∃ s', mjF (d + 2) 73 [.ref 82] (mjW0 s) = some (none, mjW0 s') ∧ (∀ j, j = 6 ∨ j = 8 ∨ j = 9 ∨ j = 10 ∨ j = 12 ∨ j = 13 → s'.1 82 j = 0) ∧ s'.1 82 11 = -1 ∧ (s'.1 83 0 = 0 ∧ s'.1 83 1 = 0) ∧ (s'.1 79 2 = 0 ∧ s'.1 79 3 = 0 ∧ s'.1 79 4 = 0) ∧ (∀ h j, ¬ ((h = 82 ∧ 6 ≤ j ∧ j ≤ 13 ∧ ¬ j = 7) ∨ (h = 83 ∧ j ≤ 1) ∨ (h = 79 ∧ 2 ≤ j ∧ j ≤ 4)) → s'.1 h j = s.1 h j) ∧ s'.2 = s.2 := by
  obtain ⟨z1, h1⟩ : ∃ z, z = uI s 82 (upd (s.1 82) 8 0) := ⟨_, rfl⟩
  obtain ⟨z2, h2⟩ : ∃ z, z = uI z1 82 (upd (z1.1 82) 9 0) := ⟨_, rfl⟩
  obtain ⟨z3, h3⟩ : ∃ z, z = uI z2 82 (upd (z2.1 82) 10 0) := ⟨_, rfl⟩
  obtain ⟨z4, h4⟩ : ∃ z, z = uI z3 82 (upd (z3.1 82) 11 (-1)) := ⟨_, rfl⟩
  obtain ⟨z5, h5⟩ : ∃ z, z = uI z4 82 (upd (z4.1 82) 12 0) := ⟨_, rfl⟩
  obtain ⟨z6, h6⟩ : ∃ z, z = uI z5 82 (upd (z5.1 82) 13 0) := ⟨_, rfl⟩
  obtain ⟨z7, h7⟩ : ∃ z, z = uI z6 82 (upd (z6.1 82) 6 0) := ⟨_, rfl⟩
  obtain ⟨z8, h8⟩ : ∃ z, z = uI z7 83 (upd (z7.1 83) 0 0) := ⟨_, rfl⟩
  obtain ⟨z9, h9⟩ : ∃ z, z = uI z8 83 (upd (z8.1 83) 1 0) := ⟨_, rfl⟩
  obtain ⟨s', a1, a2, a3, a4, a5, a6⟩ := x_42 (d := d) (s := z9) 0
  have g82 : ∀ j, s'.1 82 j = if j = 6 then 0 else if j = 13 then 0 else if j = 12 then 0 else if j = 11 then -1 else if j = 10 then 0 else if j = 9 then 0 else if j = 8 then 0 else s.1 82 j := fun j => by
    rw [a5 82 j (by omega), h9, uI_ne _ _ _ _ (by decide), h8, uI_ne _ _ _ _ (by decide), h7, uI_same, upd_g, h6, uI_same, upd_g, h5, uI_same, upd_g, h4, uI_same, upd_g, h3, uI_same, upd_g, h2, uI_same, upd_g, h1, uI_same, upd_g]
  have g83 : ∀ j, s'.1 83 j = if j = 1 then 0 else if j = 0 then 0 else s.1 83 j := fun j => by
    rw [a5 83 j (by omega), h9, uI_same, upd_g, h8, uI_same, upd_g, h7, uI_ne _ _ _ _ (by decide), h6, uI_ne _ _ _ _ (by decide), h5, uI_ne _ _ _ _ (by decide), h4, uI_ne _ _ _ _ (by decide), h3, uI_ne _ _ _ _ (by decide), h2, uI_ne _ _ _ _ (by decide), h1, uI_ne _ _ _ _ (by decide)]
  have go : ∀ h, ¬ h = 82 → ¬ h = 83 → z9.1 h = s.1 h := fun h e1 e2 => by
    rw [h9, uI_ne _ _ _ _ e2, h8, uI_ne _ _ _ _ e2, h7, uI_ne _ _ _ _ e1, h6, uI_ne _ _ _ _ e1, h5, uI_ne _ _ _ _ e1, h4, uI_ne _ _ _ _ e1, h3, uI_ne _ _ _ _ e1, h2, uI_ne _ _ _ _ e1, h1, uI_ne _ _ _ _ e1]
  refine ⟨s', ?_, fun j hj => ?_, by rw [g82]; rfl, ⟨by rw [g83]; rfl, by rw [g83]; rfl⟩, ⟨a2, a3, a4⟩, fun h j hj => ?_, by rw [a6, h9, h8, h7, h6, h5, h4, h3, h2, h1]; rfl⟩
  · rw [e_73]
    unfold f_73 b_73_0
    rw [xp_82_8, ← h1, xp_82_9, ← h2, xp_82_10, ← h3, xp_82_11, ← h4, xp_82_12, ← h5, xp_82_13, ← h6, xp_82_6, ← h7, xg_82_1, xV_83, e_36]
    unfold f_36 b_36_0
    rw [xp_83_0, ← h8, bN_s, xg_82_1, xp_83_1, ← h9, xg_82_0, xV_79, a1, bN_s]
  · rw [g82]
    rcases hj with rfl | rfl | rfl | rfl | rfl | rfl <;> rfl
  · by_cases e1 : h = 82
    · subst e1
      rw [g82, if_neg (by omega), if_neg (by omega), if_neg (by omega), if_neg (by omega), if_neg (by omega), if_neg (by omega), if_neg (by omega)]
    · by_cases e2 : h = 83
      · subst e2
        rw [g83, if_neg (by omega), if_neg (by omega)]
      · rw [a5 h j (by omega), go h e1 e2]
/-- takeSpare -/
theorem x_205 : ∃ s', mjF (d + 3) 205 [.ref 0] (mjW0 s) = some (none, mjW0 s') ∧ TKS s s' := by
  obtain ⟨z1, h1⟩ : ∃ z, z = uR s 0 (updR (s.2.2 0) 6 (s.2.2 0 7)) := ⟨_, rfl⟩
  obtain ⟨z2, h2⟩ : ∃ z, z = uR z1 0 (updR (z1.2.2 0) 7 (s.2.2 0 6)) := ⟨_, rfl⟩
  obtain ⟨z3, h3⟩ : ∃ z, z = uI z2 0 (upd (z2.1 0) 8 1) := ⟨_, rfl⟩
  obtain ⟨z4, a1, a2, a3, a4, a5, a6, a7⟩ := x_73 (d := d) (s := z3)
  obtain ⟨z5, h5⟩ : ∃ z, z = uI z4 91 (upd (z4.1 91) 5 0) := ⟨_, rfl⟩
  have r : ∀ j, z5.2.2 0 j = if j = 7 then s.2.2 0 6 else if j = 6 then s.2.2 0 7 else s.2.2 0 j := fun j => by
    have e : z5.2 = z2.2 := by rw [h5]; exact a7.trans (by rw [h3]; rfl)
    rw [e, h2, uR_same, updR_e, h1, uR_same, updR_e]
  have e1 : z3.1 = (uI s 0 (upd (s.1 0) 8 1)).1 := by rw [h3, h2, h1]; rfl
  refine ⟨z5, ?_, ⟨by rw [r]; rfl, by rw [r]; rfl, fun h j hj => ?_⟩, ?_, ?_, fun j hj => ?_, ?_, ⟨?_, ?_⟩, ⟨?_, ?_, ?_⟩, by rw [h5, uI_same]; rfl, fun h j hj => ?_⟩
  · rw [e_205]
    unfold f_205 b_205_0
    rw [xg_0_6, xg_0_7, xp_0_6, ← h1, xp_0_7, ← h2, xp_0_8 rfl, ← h3, xg_0_12, xV_82, a1, bN_s, xg_0_13, xV_91, e_183]
    unfold f_183 b_183_0
    rw [xp_91_5 rfl, ← h5, bN_s]
  · by_cases e : h = 0
    · subst e
      rw [r, if_neg (by omega), if_neg (by omega)]
    · have e2 : z5.2 = z2.2 := by rw [h5]; exact a7.trans (by rw [h3]; rfl)
      rw [e2, h2, uR_ne _ _ _ _ e, h1, uR_ne _ _ _ _ e]
  · have e2 : z5.2 = z2.2 := by rw [h5]; exact a7.trans (by rw [h3]; rfl)
    rw [e2, h2, h1]
    rfl
  · rw [h5, uI_ne _ _ _ _ (by decide), a6 0 8 (by omega), e1, uI_same]
    rfl
  · rw [h5, uI_ne _ _ _ _ (by decide)]; exact a2 j hj
  · rw [h5, uI_ne _ _ _ _ (by decide)]; exact a3
  · rw [h5, uI_ne _ _ _ _ (by decide)]; exact a4.1
  · rw [h5, uI_ne _ _ _ _ (by decide)]; exact a4.2
  · rw [h5, uI_ne _ _ _ _ (by decide)]; exact a5.1
  · rw [h5, uI_ne _ _ _ _ (by decide)]; exact a5.2.1
  · rw [h5, uI_ne _ _ _ _ (by decide)]; exact a5.2.2
  · by_cases e : h = 91
    · subst e
      rw [h5, uI_same, upd_g, if_neg (by omega), a6 91 j (by omega), e1, uI_ne _ _ _ _ (by decide)]
    · rw [h5, uI_ne _ _ _ _ e, a6 h j (by omega), e1]
      by_cases e0 : h = 0
      · subst e0
        rw [uI_same, upd_g, if_neg (by omega)]
      · rw [uI_ne _ _ _ _ e0]
/-- the FAULT is told -/
def FLT (s s' : mjSt3) : Prop := s'.1 0 9 = s.1 58 7 ∧ s'.1 0 10 = s.1 58 8 ∧ (∀ h j, ¬ (h = 0 ∧ (j = 9 ∨ j = 10)) → s'.1 h j = s.1 h j) ∧ s'.2 = s.2
theorem x_tail : ∃ s', FLT s s' ∧ (¬ s.1 58 7 = 0 → b_204_92 (mjF (d + 3)) 0 (mjW0 s) = some (some (.int (s.1 58 7)), mjW0 s')) ∧ (s.1 58 7 = 0 → ∃ s'', b_204_92 (mjF (d + 3)) 0 (mjW0 s) = some (some (.int 0), mjW0 s'') ∧ TKS s' s'') := by
  obtain ⟨z1, h1⟩ : ∃ z, z = uI s 0 (upd (s.1 0) 9 (s.1 58 7)) := ⟨_, rfl⟩
  obtain ⟨z2, h2⟩ : ∃ z, z = uI z1 0 (upd (z1.1 0) 10 (s.1 58 8)) := ⟨_, rfl⟩
  have g : ∀ j, z2.1 0 j = if j = 10 then s.1 58 8 else if j = 9 then s.1 58 7 else s.1 0 j := fun j => by
    rw [h2, uI_same, upd_g, h1, uI_same, upd_g]
  have e9 : z2.1 0 9 = s.1 58 7 := by rw [g]; rfl
  have pre : b_204_92 (mjF (d + 3)) 0 (mjW0 s) = if s.1 58 7 = 0 then bN (mjF (d + 3) 205 [.ref 0] (mjW0 z2)) (fun hp8 => b_204_125 (mjF (d + 3)) 0 hp8) else b_204_125 (mjF (d + 3)) 0 (mjW0 z2) := by
    unfold b_204_92
    rw [xg_0_2, xg_58_7, xp_0_9, ← h1, xg_0_2, xg_58_8, h1, uI_ne _ _ _ _ (by decide), ← h1, xp_0_10, ← h2, xg_0_9, e9, xV_0]
  refine ⟨z2, ⟨e9, by rw [g]; rfl, fun h j hj => ?_, by rw [h2, h1]; rfl⟩, fun hn => ?_, fun hz => ?_⟩
  · by_cases e : h = 0
    · subst e
      rw [g, if_neg (by omega), if_neg (by omega)]
    · rw [h2, uI_ne _ _ _ _ e, h1, uI_ne _ _ _ _ e]
  · rw [pre, if_neg hn]
    unfold b_204_125
    rw [xg_0_9, e9]
  · obtain ⟨s'', a1, a2⟩ := x_205 (d := d) (s := z2)
    refine ⟨s'', ?_, a2⟩
    rw [pre, if_pos hz, a1, bN_s]
    unfold b_204_125
    rw [xg_0_9, a2.2.2.2.2.2.2.2.2 0 9 (by omega), e9, hz]
end MJA64
end
section
/-! ===== the class's load ===== -/
/-- all that load changes, but for taking the PROGRAM -/
def oLd (q : Nat) (s s' : mjSt3) : Prop := (∀ h j, ¬ ((h = 0 ∧ (j = 1 ∨ j = 9 ∨ j = 10)) ∨ (58 ≤ h ∧ h ≤ 78) ∨ (q ≤ h ∧ h ≤ q + 27)) → s'.1 h j = s.1 h j) ∧ (∀ h, ¬ (h = 62 ∨ (72 ≤ h ∧ h ≤ 76) ∨ (q ≤ h ∧ h ≤ q + 27)) → s'.2.1 h = s.2.1 h) ∧ ∀ h, ¬ (h = 64 ∨ h = 71 ∨ h = 75) → s'.2.2 h = s.2.2 h
def mthL (L : List CD) (c : Nat) : Nat := match L[c]? with
  | some D => cntB true D.2
  | none => 0
/-- a PROGRAM that was judged, in the rows of program q -/
def PG (T : TT) (L : List CD) (q : Nat) (s : mjSt3) : Prop := (isP q ∧ pnm q s (nmL L) ∧ s.1 q 0 = nI L.length ∧ L.length ≤ 16) ∧ (ABK T L q s ∧ INP q s (inL L) (ipT T L) ∧ VWS T L q s) ∧ ((∀ j, j < L.length → s.1 (q + 8) j = nI (fldT T L j)) ∧ NUr T L q s ∧ KNW q s (knF T L)) ∧ ((∀ m, m < nMem L → TYr T L q s m) ∧ OBr q s L.length (obT T L)) ∧ (∀ c, c < L.length → s.1 (q + 2) c = (T (hC L c).1).2.1 ∧ s.1 (q + 6) c = nI (mthL L c) ∧ s.1 (q + 9) c = nI (fmL L c) ∧ s.1 (q + 10) c = nI (mcL L c) ∧ mcL L c ≤ 24 ∧ fmL L c + mcL L c ≤ nMem L) ∧ (s.1 (q + 14) 0 = nI (nMem L) ∧ nMem L ≤ 384) ∧ (∀ m, m < nMem L → s.1 (q + 16) m = nI (hmM L m) ∧ hmM L m < L.length ∧ s.1 (q + 18) m = b2 (mSM L m) ∧ s.1 (q + 20) m = nI (psM L m).length) ∧ (∀ m m', m < nMem L → m' < nMem L → (s.2.1 (q + 15) m = s.2.1 (q + 15) m' ↔ nkM T L m = nkM T L m')) ∧ s.1 (q + 16) 384 = -1 ∧ s.1 (q + 20) 384 = 0
/-- its code -/
def PGc (T : TT) (N k0 q : Nat) (t : PT) (rs : List RcM) (z : PB) (tr : Bool) (s : mjSt3) : Prop := (∀ m, m ≤ 384 → isMT t.1 m = true → s.1 (q + 22) m = nI (vnT t m)) ∧ ∃ cs, cs ≤ N ∧ s.1 (q + 24) 3 = nI cs ∧ GCm q (isMT t.1) (EmT T t.1 tr (ktL k0 t.2.2.1)) (i0T t) (zT rs z) (jmT T t.1) s 385 cs
/-- (a) to (f) find nothing -/
def OKz (T : TT) (k0 : Nat) (t : PT) (rs : List RcM) (z : PB) (tr : Bool) : Prop := OKh T t.1 tr ∧ OKf (isMT t.1) (EmT T t.1 tr (ktL k0 t.2.2.1)) (zT rs z) (jmT T t.1)
section MJA65
variable {T : TT} {N k0 q kb m n : Nat} {t : PT} {rs : List RcM} {z : PB} {s s' : mjSt3} {tr : Bool} {L : List CD}
theorem oLd.rf : oLd q s s := ⟨fun _ _ _ => rfl, fun _ _ => rfl, fun _ _ => rfl⟩
theorem oLd.trn {a b c : mjSt3} (h : oLd q a b) (g : oLd q b c) : oLd q a c := ⟨fun x y z => (g.1 x y z).trans (h.1 x y z), fun x y => (g.2.1 x y).trans (h.2.1 x y), fun x y => (g.2.2 x y).trans (h.2.2 x y)⟩
theorem cut_oLd (h : cutS s s' n) : oLd q s s' := by
  obtain ⟨_, _, _, _, _, h6, h7, h8⟩ := h
  exact ⟨fun x y z => by rw [h6 x (by omega) (by omega) (by omega) (by omega)], fun x y => h7 x (by omega), fun x _ => by rw [h8]⟩
theorem CLR.Ld (h : CLR q s s') : oLd q s s' := by
  obtain ⟨_, _, _, _, _, _, _, _, _, _, h1, h2, h3⟩ := h
  exact ⟨fun x y z => by rw [h1 x (by omega)], fun x y => h2 x (by omega), fun x _ => by rw [h3]⟩
theorem offL.Ld (h : offL q s s') : oLd q s s' := ⟨fun x y z => by rw [h.1 x (by omega) (by omega)], fun x y => h.2.1 x (by omega) trivial, fun x y => h.2.2 x (by omega) trivial trivial⟩
theorem oJH.Ld (h : oJH q s s') : oLd q s s' := ⟨fun x y z => h.1 x y (by unfold c58; omega), fun x y => h.2.1 x (by omega), fun x y => h.2.2 x (by omega)⟩
theorem oC.Ld (h : oC q s s') : oLd q s s' := ⟨fun x y z => h.1 x y (by unfold c58; omega), fun x y => funext fun j => h.2.1 x j (by omega), fun x _ => by rw [h.2.2]⟩
theorem FLT.Ld (h : FLT s s') : oLd q s s' := ⟨fun x y z => h.2.2.1 x y (by omega), fun x _ => by rw [h.2.2.2], fun x _ => by rw [h.2.2.2]⟩
theorem HDR.rfs (h : HDR T N q L s) (h1 : s'.1 = s.1) (h2 : s'.2.1 = s.2.1) (h3 : s'.2.2 71 = s.2.2 71) : HDR T N q L s' := by
  unfold HDR JX TH KY CKs pnm ABK INP VWS NUr KNW TYr OBr at h ⊢
  rw [h1, h2, h3]
  exact h
theorem RDM.oJH (h : RDM T N q L s) (hq : isP q) (o : oJH q s s') : RDM T N q L s' := by
  have hq' : q = 2 ∨ q = 30 := hq
  have r : ∀ x, x = q + 9 ∨ x = q + 10 ∨ x = q + 14 ∨ x = q + 16 ∨ x = 68 ∨ x = 69 ∨ x = q + 18 ∨ x = q + 20 → s'.1 x = s.1 x := fun x hx => funext fun j => o.1 x j (by unfold c58; omega)
  unfold RDM at h ⊢
  rw [r (q + 9) (by omega), r (q + 10) (by omega), r (q + 14) (by omega), r (q + 16) (by omega), r 68 (by omega), r 69 (by omega), r (q + 18) (by omega), r (q + 20) (by omega), o.2.1 (q + 15) (by omega), o.2.1 62 (by omega)]
  exact h
/-- PG out of what the judges and the Coder left -/
theorem PG_of (C : CB T N q L tr s) (h2 : ∀ c, c < L.length → s.1 (q + 2) c = (T (hC L c).1).2.1 ∧ s.1 (q + 6) c = nI (mthL L c)) (h16 : s.1 (q + 16) 384 = -1) (h20 : s.1 (q + 20) 384 = 0) : PG T L q s := by
  obtain ⟨⟨X, A, I, V, F, U, K, Y, O⟩, M, Ac, P, _⟩ := C
  obtain ⟨M1, M2, M3, M4, M5⟩ := M
  refine ⟨⟨X.2.2.2.2.1, X.2.2.2.2.2.2.1, X.2.2.2.2.2.2.2, X.2.2.1.1⟩, ⟨A, I, V⟩, ⟨F, U, K⟩, ⟨Y, O⟩, fun c hc => ⟨(h2 c hc).1, (h2 c hc).2, (M1 c hc).1, (M1 c hc).2, (M4 c hc).1, (M4 c hc).2⟩, ⟨M2, M3⟩, fun m hm => ⟨(M5 m hm).1, (M5 m hm).2.1, (M5 m hm).2.2.2.2.2.1, (M5 m hm).2.2.2.2.2.2⟩, fun m m' hm hm' => ?_, h16, h20⟩
  rw [(M5 m hm).2.2.2.2.1, (M5 m' hm').2.2.2.2.1]
  have p1 := P m hm
  have p2 := P m' hm'
  exact X.2.1.2.2.1 _ _ (by have := p1.2.2.2.1; omega) (by have := p2.2.2.2.1; omega) (Or.inr p1.2.2.1) (Or.inr p2.2.2.1)
/-- load at a number of signs that the tape has -/
theorem x_204 {tp : Nat} (hta : s.1 0 1 = nI tp) (htp : tp ≤ 3000) (hn : n ≤ tp) (hb : ∀ i, i < 3000 → byR (s.1 1 i)) (hw : ∀ i, i < 16 → s.2.1 59 i = lN (rN gC (wdL.getD i []))) (hsp : s.2.2 0 7 = q) (hq : isP q) (hk0 : k0 ≤ 1000) : ∃ N, N ≤ n ∧ (mTT (s.1 1) n N).1 = 0 ∧ match pText (mTT (s.1 1) n) (N + 1) k0 with
    | .inl _ => ∃ v s', ¬ v = 0 ∧ mjF 1999 204 [.ref 0, .int (nI n), .int (b2 tr)] (mjW0 s) = some (some (.int v), mjW0 s') ∧ oLd q s s' ∧ s'.1 0 1 = 0
    | .inr t => ∀ rs kb z, TRc (mTT (s.1 1) n) N k0 t rs kb z → t.1.length ≤ 16 ∧ (∀ (c : Nat) (E : CD), t.1[c]? = some E → E.2.length ≤ 24) ∧ (OKz (mTT (s.1 1) n) k0 t rs z tr → ∃ s1 s', mjF 1999 204 [.ref 0, .int (nI n), .int (b2 tr)] (mjW0 s) = some (some (.int 0), mjW0 s') ∧ oLd q s s1 ∧ s1.1 0 1 = 0 ∧ TKS s1 s' ∧ PG (mTT (s.1 1) n) t.1 q s1 ∧ PGc (mTT (s.1 1) n) N k0 q t rs z tr s1) ∧ (¬ OKz (mTT (s.1 1) n) k0 t rs z tr → ∃ v s', ¬ v = 0 ∧ mjF 1999 204 [.ref 0, .int (nI n), .int (b2 tr)] (mjW0 s) = some (some (.int v), mjW0 s') ∧ oLd q s s' ∧ s'.1 0 1 = 0) := by
  have hq' : q = 2 ∨ q = 30 := hq
  obtain ⟨s1, h1⟩ : ∃ z, z = uI s 0 (upd (s.1 0) 1 0) := ⟨_, rfl⟩
  have r1 : ∀ h, ¬ h = 0 → s1.1 h = s.1 h := fun h e => by rw [h1, uI_ne _ _ _ _ e]
  have e1 : s1.2 = s.2 := by rw [h1]; rfl
  have o1 : oLd q s s1 := by
    refine ⟨fun h j hj => ?_, fun _ _ => by rw [e1], fun _ _ => by rw [e1]⟩
    by_cases e : h = 0
    · subst e
      rw [h1, uI_same, upd_g, if_neg (by omega)]
    · rw [r1 h e]
  have z1 : s1.1 0 1 = 0 := by rw [h1, uI_same]; rfl
  have hb1 : ∀ i, i < n → byR (s1.1 1 i) := fun i hi => by rw [r1 1 (by decide)]; exact hb i (by omega)
  obtain ⟨s2, c1, c2⟩ := x_cut (d := 1991) (s := s1) (n := n) (by omega) (fun i hi => (hb1 i hi).2)
  have hw1 : ∀ i, i < 16 → s1.2.1 59 i = lN (rN gC (wdL.getD i [])) := fun i hi => by rw [e1]; exact hw i hi
  obtain ⟨N, hN, T2, K2⟩ := cut_KY (s := s1) (s' := s2) (by omega) hw1 hb1 c2
  rw [r1 1 (by decide)] at T2 K2
  have o2 : oLd q s s2 := o1.trn (cut_oLd c2)
  obtain ⟨s3, d1, d2⟩ := x_101 (d := 1996) (s := s2) hq
  have o3 : oLd q s s3 := o2.trn d2.Ld
  obtain ⟨d3, d4, d5, d6, d7, d8, d9, d10, d11, d12, d13, d14, d15⟩ := id d2
  have T3 : TH (mTT (s.1 1) n) N s3 := by
    obtain ⟨a, b, c, e⟩ := T2
    exact ⟨by rw [d13 58 (by omega)]; exact a, b, c, fun k hk => by rw [d13 60 (by omega), d13 61 (by omega)]; exact e k hk⟩
  have K3 : KY (mTT (s.1 1) n) N s3 := K2.lr (d14 62 (by omega))
  have h00 : (mTT (s.1 1) n N).1 = 0 := T2.2.2.1
  refine ⟨N, hN, h00, ?_⟩
  have f36 : s3.1 58 6 = 0 := by rw [d13 58 (by omega)]; exact c2.2.1
  have f37 : s3.1 58 7 = 0 := by rw [d13 58 (by omega)]; exact c2.2.2.1
  have F3 : Fr q 0 0 s3 := ⟨fun j _ hj => ⟨(d6 j hj).1, (d6 j hj).2.1, (d6 j hj).2.2.2.1, (d6 j hj).2.2.2.2.1, (d6 j hj).2.2.2.2.2.2⟩, fun j _ hj => by
    have := d10 j (by omega)
    rw [decide_eq_false (by omega)] at this
    exact this⟩
  have RT := x_readText (T := mTT (s.1 1) n) (N := N) (q := q) (s := s3) (D := 1997) (kq := k0) (by omega) hq T3 f36 f37 d3 d4 F3
  obtain ⟨U, hU⟩ : ∃ U, U = mjF 1999 204 [.ref 0, .int (nI n), .int (b2 tr)] (mjW0 s) := ⟨_, rfl⟩
  have pre : U = f_204 (mjF 1998) 0 (nI n) (b2 tr) (mjW0 s) := hU
  unfold f_204 b_204_0 at pre
  rw [if_neg (nI_pos (show n < 2 ^ 31 by omega)), xg_0_1, hta, if_pos (nI_le hn (by omega)), xp_0_1, ← h1, xg_0_2, xg_0_0, xV_58, c1, bN_s, xg_0_7, o2.2.2 0 (by omega), hsp, yV hq, d1, bN_s, xg_0_3, xg_0_7, o3.2.2 0 (by omega), hsp, xV_64] at pre
  rw [← hU]
  -- a bad state to the end
  have bad : ∀ x, oLd q s x → ¬ x.1 58 7 = 0 → U = b_204_92 (mjF 1998) 0 (mjW0 x) → x.1 0 1 = 0 → ∃ v s', ¬ v = 0 ∧ U = some (some (.int v), mjW0 s') ∧ oLd q s s' ∧ s'.1 0 1 = 0 := by
    intro x ox hx hu hz
    obtain ⟨s', a1, a2, _⟩ := x_tail (d := 1995) (s := x)
    exact ⟨_, s', hx, hu.trans (a2 hx), ox.trn a1.Ld, by rw [a1.2.2.1 0 1 (by omega)]; exact hz⟩
  have nofine : ∀ (x : mjSt3) (d : Nat), ¬ x.1 58 7 = 0 → mjF (d + 1) 172 [.ref 58] (mjW0 x) = some (some (.int 0), mjW0 x) := by
    intro x d hx
    rw [e_172]
    unfold f_172 b_172_0
    rw [xg_58_7, if_neg hx]
  have zz : ∀ x, oLd q s2 x → x.1 0 1 = 0 ∨ ¬ x.1 0 1 = 0 := fun x _ => Classical.em _
  have k01 : s3.1 0 1 = 0 := by rw [d13 0 (by omega), c2.2.2.2.2.2.1 0 (by decide) (by decide) (by decide) (by decide)]; exact z1
  cases hP : pText (mTT (s.1 1) n) (N + 1) k0 with
  | inl e =>
    rw [hP] at RT
    obtain ⟨he, s4, g1, g2, g3, g4⟩ := RT
    have ne : ¬ s4.1 58 7 = 0 := by rw [g2]; exact in_n0 he
    have o4 : oLd q s s4 := o3.trn g4.Ld
    rw [g1, bN_s, xg_0_2, xV_58, nofine s4 1997 ne, bI_s, if_pos rfl] at pre
    unfold b_204_71 at pre
    rw [xg_0_2, xV_58, nofine s4 1997 ne, bI_s, if_pos rfl] at pre
    exact bad s4 o4 ne pre (by rw [g4.1 0 (by omega) (by omega)]; exact k01)
  | inr t =>
    rw [hP] at RT
    obtain ⟨s4, g1, g2, g3, g4, g5⟩ := RT
    intro rs kb z R
    have o4 : oLd q s s4 := o3.trn g4.Ld
    have Z := RD0_of R hk0 g3 K3 g4 (fun j hj => ⟨(d6 j hj).2.2.1, (d6 j hj).2.2.2.2.2.1⟩) d7 d8 d9
    obtain ⟨hT, hQ, hCI, h16, h24, h70, h22, h63, h7, cu, hcu, h6⟩ := id g3
    have k41 : s4.1 0 1 = 0 := by rw [g4.1 0 (by omega) (by omega)]; exact k01
    obtain ⟨s5, b1, b2', b3, b4⟩ := x_54 (d := 1990) (tr := tr) Z ⟨cu, hcu, h6, h7⟩
    have o5 : oLd q s s5 := o4.trn b2'.Ld
    have k51 : s5.1 0 1 = 0 := by rw [b2'.1 0 1 (by unfold c58; omega)]; exact k41
    rw [g1, bN_s, xg_0_2, xV_58, j_fine (show fne s4 cu from ⟨h6, h7⟩), bI_s, if_neg (by decide), xg_0_4, xg_0_7, o4.2.2 0 (by omega), hsp, xV_71, b1, bN_s] at pre
    unfold b_204_71 at pre
    refine ⟨h16, h24, ?_⟩
    rcases b4 with ⟨ok, ⟨c5, hc5, f5⟩, H5, h17⟩ | ⟨nok, bd⟩
    · rw [xg_0_2, xV_58, j_fine f5, bI_s, if_neg (by decide), xg_0_5, xg_0_7, o5.2.2 0 (by omega), hsp, xV_75] at pre
      obtain ⟨s6, a1, a2, a3, a4, a5, a6, a7⟩ := x_4 (D := 1996) (s := s5) hq
      have H6 : HDR (mTT (s.1 1) n) N q t.1 s6 := H5.rfs a2 a3 (funext fun j => a7 71 j (by omega))
      have M5 : RDM (mTT (s.1 1) n) N q t.1 s5 := Z.2.2.1.oJH hq b2'
      have M6 : RDM (mTT (s.1 1) n) N q t.1 s6 := by unfold RDM at M5 ⊢; rw [a2, a3]; exact M5
      have P6 : PFm (mTT (s.1 1) n) N t.1 := Z.2.2.2.1.2
      have C6 : CB (mTT (s.1 1) n) N q t.1 tr s6 := ⟨H6, M6, ⟨H5.1.2.2.1, noR_of ok.2.2.1⟩, P6, by rw [a2]; exact b3.2.2, a4, a5, a6⟩
      have rj : ∀ x, x = 63 ∨ x = 70 ∨ x = q + 2 ∨ x = q + 6 ∨ x = q + 16 ∨ x = q + 18 ∨ x = q + 20 ∨ x = q + 22 ∨ x = q + 24 → s6.1 x = s4.1 x := fun x hx => by rw [a2]; exact funext fun j => b2'.1 x j (by unfold c58; omega)
      have w16 : s6.1 (q + 16) 384 = -1 := by rw [rj _ (by omega), g5 _ (by omega)]; exact d11
      have w18 : s6.1 (q + 18) 384 = 1 := by rw [rj _ (by omega), g5 _ (by omega)]; exact (d10 384 (by omega)).1
      have w20 : s6.1 (q + 20) 384 = 0 := by rw [rj _ (by omega), g5 _ (by omega)]; exact (d10 384 (by omega)).2
      have w17 : s6.1 (q + 17) 384 = -1 := by rw [a2, h17, g4.1 (q + 17) (by omega) (by omega)]; exact d12
      have mem : ∀ m, m < nMem t.1 → ∃ c k, MF q c m k s4 (mdM t.1 m) := by
        intro m hm
        obtain ⟨c, E, k, x1, x2, x3, x4⟩ := FL_ex hm
        have := (hCI.2.2.2 c E x1).2.2.2.2 k _ x2
        rw [← x3] at this
        exact ⟨c, _, this⟩
      have b384 := CI.bound h24
      have n384 : nMem t.1 ≤ 384 := by omega
      have W18 : ∀ m, m ≤ 384 → s6.1 (q + 18) m = b2 (isMT t.1 m) := by
        intro m hm
        by_cases e : m = 384
        · rw [e, w18]; rfl
        · unfold isMT
          rw [decide_eq_false e, Bool.false_or]
          by_cases g : m < nMem t.1
          · rw [decide_eq_true g, Bool.true_and]
            exact (M6.2.2.2.2 m g).2.2.2.2.2.1
          · rw [decide_eq_false g, Bool.false_and, rj _ (by omega)]
            exact (hCI.2.2.1.2 m (by omega) (by omega)).1
      have MB := MBm_of (q := q) (D := 1996) (s := s6) (tr := tr) R (by omega) hk0 T2.2.1 (by rw [rj 63 (by omega), h63]; exact AGf_ex _ R.2.2.1 _) H5.1.2.2.1 W18 (fun m hm => ⟨(M6.2.2.2.2 m hm).1, (M6.2.2.2.2 m hm).2.1⟩) w16 (fun m hm => (H6.2.2.2.2.2.2.2.1 m hm).1) w17 (fun m hm ms => by
        obtain ⟨c, k, F⟩ := mem m hm
        rw [rj 70 (by omega), (F.2.2.2.2.2.2.2 ms).1]
        unfold btT
        rw [if_neg (by omega)]) (by rw [rj 70 (by omega)]; exact h70) w20
      obtain ⟨y1, y2⟩ := x_4a (D := 1996) (by omega) MB C6 (c := c5) ⟨by rw [a2]; exact f5.1, by rw [a2]; exact f5.2⟩ hc5 (by rw [rj _ (by omega), g4.1 (q + 24) (by omega) (by omega)]; exact d5)
      have o6 : oLd q s s6 := o5.trn ⟨fun h j _ => by rw [a2], fun h _ => by rw [a3], fun h hh => funext fun j => a7 h j (by omega)⟩
      have k61 : s6.1 0 1 = 0 := by rw [a2]; exact k51
      constructor
      · intro oz
        obtain ⟨s7, c7, cs, u1, u2, u3, u4, u5, u6, u7, u8⟩ := y1 oz.2
        have o7 : oLd q s s7 := o6.trn u3.Ld
        rw [a1, u1, bN_s] at pre
        obtain ⟨s8, v1, _, v3⟩ := x_tail (d := 1995) (s := s7)
        obtain ⟨s9, v4, v5⟩ := v3 u4.2
        have e8 : ∀ x, ¬ x = 0 → s8.1 x = s7.1 x := fun x hx => funext fun j => v1.2.2.1 x j (by omega)
        have C7 : CB (mTT (s.1 1) n) N q t.1 tr s7 := u2
        have P7 : PG (mTT (s.1 1) n) t.1 q s7 := by
          refine PG_of C7 (fun c hc => ?_) (by rw [u3.r (by omega)]; exact w16) (by rw [u3.r (by omega)]; exact w20)
          rw [u3.r (by omega), u3.r (by omega), rj (q + 2) (by omega), rj (q + 6) (by omega)]
          obtain ⟨E, hE⟩ : ∃ E, t.1[c]? = some E := ⟨_, List.getElem?_eq_getElem hc⟩
          have x := hCI.2.2.2 c E hE
          have x1 : hC t.1 c = E.1 := by unfold hC; rw [hE]
          have x2 : mthL t.1 c = cntB true E.2 := by unfold mthL; rw [hE]
          rw [x1, x2]
          exact ⟨x.1.2.2.1, x.2.2.1⟩
        refine ⟨s8, s9, pre.trans v4, o7.trn v1.Ld, by rw [v1.2.2.1 0 1 (by omega), u3.1 0 1 (by unfold c58; omega)]; exact k61, v5, ?_, ?_⟩
        · unfold PG pnm ABK INP VWS NUr KNW TYr OBr at P7 ⊢
          rw [e8 q (by omega), e8 (q + 1) (by omega), e8 (q + 2) (by omega), e8 (q + 3) (by omega), e8 (q + 4) (by omega), e8 (q + 5) (by omega), e8 (q + 6) (by omega), e8 (q + 8) (by omega), e8 (q + 9) (by omega), e8 (q + 10) (by omega), e8 (q + 11) (by omega), e8 (q + 12) (by omega), e8 (q + 14) (by omega), e8 (q + 16) (by omega), e8 (q + 17) (by omega), e8 (q + 18) (by omega), e8 (q + 19) (by omega), e8 (q + 20) (by omega), e8 (q + 21) (by omega), v1.2.2.2]
          exact P7
        · refine ⟨fun m hm im => ?_, cs, u7, by rw [e8 _ (by omega)]; exact u6, ?_⟩
          · rw [e8 _ (by omega), u3.r (by omega), rj (q + 22) (by omega)]
            by_cases e : m = 384
            · subst e; exact h22
            · obtain ⟨w1, w2⟩ := isMT_lt im e
              obtain ⟨c, k, F⟩ := mem m w1
              rw [(F.2.2.2.2.2.2.2 w2).2]
              unfold vnT
              rw [if_neg e]
          · intro m hm im
            obtain ⟨c, j', l, x1, x2, x3, x4⟩ := u8 m hm im
            refine ⟨c, j', l, x1, by rw [e8 _ (by omega)]; exact x2, ?_, x4⟩
            unfold CL at x3 ⊢
            rw [e8 _ (by omega), e8 _ (by omega), e8 _ (by omega)]
            exact x3
      · intro noz
        have nf : ¬ OKf (isMT t.1) (EmT (mTT (s.1 1) n) t.1 tr (ktL k0 t.2.2.1)) (zT rs z) (jmT (mTT (s.1 1) n) t.1) := fun g => noz ⟨ok, g⟩
        obtain ⟨s7, u1, u2, u3⟩ := y2 nf
        rw [a1, u1, bN_s] at pre
        exact bad s7 (o6.trn u3.Ld) u2.2.1.2 pre (by rw [u3.1 0 1 (by unfold c58; omega)]; exact k61)
    · have ne : ¬ s5.1 58 7 = 0 := bd.2
      rw [xg_0_2, xV_58, nofine s5 1997 ne, bI_s, if_pos rfl] at pre
      exact ⟨fun oz => absurd oz.1 nok, fun _ => bad s5 o5 ne pre k51⟩
end MJA65
end
section
/-! ===== the reference's judge: NAMES ===== -/
def cR (b : Nat) (h : Option Nat) : Int32 := match h with
  | none => -1
  | some c => nI (16 * b + c)
/-- an OWNER as the reference has it -/
def oR (o : Nat) : Int32 := if o = 5 then -1 else if o = 6 then -2 else nI o
/-- NAMES are no marks of OWNERS -/
def NKp (T : TT) (N : Nat) : Prop := ∀ t, t ≤ N → (T t).1 = 3 → ¬ kyT T t = -1 ∧ ¬ kyT T t = -2
/-- what the reference's judge stands on: what was read -/
def RJ (T : TT) (N b : Nat) (ks : List Nat) (L : List CD) (s : mjSt3) : Prop := (b ≤ 1 ∧ s.1 97 63 = nI b) ∧ RCs T b s ks L ∧ (∀ (i t : Nat), ks[i]? = some t → Kd T s (800 * b + i) t) ∧ ks.length ≤ 750 ∧ (∀ (c : Nat) (E : CD), L[c]? = some E → E.2.length ≤ 24) ∧ HN T N L ∧ NKp T N
/-- a KIND's CLASS and OWNERS are found -/
def KRr (b : Nat) (s : mjSt3) (k n kk : Nat) : Prop := s.1 139 k = nI (16 * b + cK kk) ∧ ∀ i, i < n → s.1 142 (5 * k + i) = oR (oK kk i)
def oNm (k : Nat) : mjSt3 → mjSt3 → Prop := offG (fun h j => (h = 97 ∧ (j = 61 ∨ j = 62)) ∨ (h = 139 ∧ j = k) ∨ (h = 142 ∧ 5 * k ≤ j ∧ j < 5 * k + 5)) (fun _ _ => False)
section MJA66
variable {T : TT} {d N b k t c n : Nat} {ks : List Nat} {L : List CD} {s s' : mjSt3} {h : Option Nat} {beh : Bool}
theorem i16 (b c : Nat) : (16 : Int32) * nI b + nI c = nI (16 * b + c) := by rw [show (16 : Int32) = nI 16 from rfl, nI_mul, nI_ad]
theorem i5m (b c : Nat) : (5 : Int32) * nI b + nI c = nI (5 * b + c) := by rw [show (5 : Int32) = nI 5 from rfl, nI_mul, nI_ad]
theorem RJ.b1 (J : RJ T N b ks L s) : b ≤ 1 := J.1.1
theorem RJ.len (J : RJ T N b ks L s) : L.length ≤ 16 := J.2.2.2.2.2.1.1
/-- CLASS c's head -/
theorem RJ.hd (J : RJ T N b ks L s) (hc : c < L.length) : RH T b s ks (16 * b + c) (fmL L c) (hC L c) := by
  obtain ⟨E, hE⟩ : ∃ E, L[c]? = some E := ⟨_, List.getElem?_eq_getElem hc⟩
  have := (J.2.1.2.2 c E hE).1
  unfold hC
  rw [hE]
  exact this
theorem L303c_S (R : mjR) (n a : Nat) (e : Int64) (f : Int32) (hp : mjH) : L_303_2 R (n + 1) a e f hp = b_303_2 R (L_303_2 R n) a e f hp := rfl
theorem lq_303' (J : RJ T N b ks L s) (R : mjR) (key : Int64) : ∀ (r i m : Nat), i + r = L.length → r < m → (∀ j, j < i → ¬ kyT T (hC L j).1 = key) → L_303_2 R m 97 key (nI i) (mjW0 s) = some (some (.int (cR b (clsK T L key))), mjW0 s)
  | r, i, 0, e, hr, hj => by omega
  | 0, i, m + 1, e, hr, hj => by
    have h16 := J.len
    have hb := J.b1
    rw [L303c_S]
    unfold b_303_2
    rw [xg_97_11, xg_97_63, J.1.2, wa_100 (by omega), J.2.1.1, if_pos (nI_le (by omega) (by omega))]
    unfold clsK
    rw [fnd_none.mpr (fun j hx => decide_eq_false (hj j (by omega)))]
    rfl
  | r + 1, i, m + 1, e, hr, hj => by
    have h16 := J.len
    have hb := J.b1
    rw [L303c_S]
    unfold b_303_2
    rw [xg_97_11, xg_97_63, J.1.2, wa_100 (by omega), J.2.1.1, if_neg (nI_ge (by omega) (by omega)), xg_97_12, xg_97_63, J.1.2, i16, wa_101 (by omega), show s.2.1 101 (16 * b + i) = kyT T (hC L i).1 from (J.hd (c := i) (by omega)).1]
    by_cases g : kyT T (hC L i).1 = key
    · rw [if_pos ((lg_cmp_eq _ _).mpr g), xg_97_63, J.1.2, i16]
      unfold clsK
      rw [fnd_some.mpr ⟨show i < L.length by omega, decide_eq_true g, fun j hx => decide_eq_false (hj j hx)⟩]
      rfl
    · rw [if_neg (fun x => g ((lg_cmp_eq _ _).mp x)), nI_1]
      refine lq_303' J R key r (i + 1) m (by omega) (by omega) (fun j hx => ?_)
      by_cases e' : j = i
      · rw [e']; exact g
      · exact hj j (by omega)
theorem x_303 (J : RJ T N b ks L s) (key : Int64) : mjF (d + 1) 303 [.ref 97, .long key] (mjW0 s) = some (some (.int (cR b (clsK T L key))), mjW0 s) := by
  have := J.len
  rw [e_303]
  unfold f_303 b_303_0
  exact lq_303' J _ key L.length 0 mjN (by omega) (by have := mjN_v; omega) (fun j hj => absurd hj (by omega))
theorem L305_S (R : mjR) (n a : Nat) (b : Int32) (e : Int64) (f : Int32) (hp : mjH) : L_305_3 R (n + 1) a b e f hp = b_305_3 R (L_305_3 R n) a b e f hp := rfl
/-- nameOf's answer: STRANGE is -9 -/
def nR (o : Option Nat) : Int32 := match o with
  | none => -9
  | some i => nI i
theorem lq_305 (J : RJ T N b ks L s) (hc : c < L.length) (R : mjR) (key : Int64) : ∀ (r i m : Nat), i + r = (hC L c).2.1 → r < m → (∀ j, j < i → ¬ kyT T ((hC L c).1 + 2 + 2 * j) = key) → L_305_3 R m 97 (nI (16 * b + c)) key (nI i) (mjW0 s) = some (some (.int (nR (nmK T L c key))), mjW0 s)
  | r, i, 0, e, hr, hj => by omega
  | 0, i, m + 1, e, hr, hj => by
    have h16 := J.len
    have hb := J.b1
    have H := J.hd hc
    have h5 := H.2.2.2.2.2.2.2.1
    rw [L305_S]
    unfold b_305_3
    rw [xg_97_15, wa_104 (by omega), H.2.2.1.1, if_pos (nI_le (by omega) (by omega))]
    unfold nmK
    rw [fnd_none.mpr (fun j hx => decide_eq_false (hj j (by omega)))]
    rfl
  | r + 1, i, m + 1, e, hr, hj => by
    have h16 := J.len
    have hb := J.b1
    have H := J.hd hc
    have h5 := H.2.2.2.2.2.2.2.1
    rw [L305_S]
    unfold b_305_3
    rw [xg_97_15, wa_104 (by omega), H.2.2.1.1, if_neg (nI_ge (by omega) (by omega)), xg_97_22, i5m, wa_111 (by omega), show s.2.1 111 (5 * (16 * b + c) + i) = kyT T ((hC L c).1 + 2 + 2 * i) from (H.2.2.1.2 i (by omega)).1]
    by_cases g : kyT T ((hC L c).1 + 2 + 2 * i) = key
    · rw [if_pos ((lg_cmp_eq _ _).mpr g)]
      unfold nmK
      rw [fnd_some.mpr ⟨show i < (hC L c).2.1 by omega, decide_eq_true g, fun j hx => decide_eq_false (hj j hx)⟩]
      rfl
    · rw [if_neg (fun x => g ((lg_cmp_eq _ _).mp x)), nI_1]
      refine lq_305 J hc R key r (i + 1) m (by omega) (by omega) (fun j hx => ?_)
      by_cases e' : j = i
      · rw [e']; exact g
      · exact hj j (by omega)
theorem x_305 (J : RJ T N b ks L s) (hc : c < L.length) (key : Int64) : mjF (d + 1) 305 [.ref 97, .int (nI (16 * b + c)), .long key] (mjW0 s) = some (some (.int (nR (nmK T L c key))), mjW0 s) := by
  have h5 := (J.hd hc).2.2.2.2.2.2.2.1
  rw [e_305]
  unfold f_305 b_305_0
  exact lq_305 J hc _ key (hC L c).2.1 0 mjN (by omega) (by have := mjN_v; omega) (fun j hj => absurd hj (by omega))
/-- an OWNER's answer -/
def ownR (o : Option Nat) : Int32 := match o with
  | none => -9
  | some o => oR o
theorem nmK_lt (hn : HN T N L) (hc : c < L.length) {key : Int64} {i : Nat} (hi : nmK T L c key = some i) : i < 5 := by
  have a := fnd_lt hi
  have b := (hn.2 c hc).2.2.2.1
  omega
/-- ownerOf at an OWNER's token -/
theorem x_304 (J : RJ T N b ks L s) (hh : ∀ c, h = some c → c < L.length) (ht : t ≤ N) (ho : isOw (T t).1) : mjF (d + 2) 304 [.ref 97, .int (cR b h), .long (owR T t), .int (b2 beh)] (mjW0 s) = some (some (.int (ownR (owT T L h beh t))), mjW0 s) := by
  have hb := J.b1
  have h16 := J.len
  rw [e_304]
  unfold f_304 b_304_0 owT
  have k3 : (T t).1 = 3 → owR T t = kyT T t := fun e => if_pos e
  rcases ho with o | o | o
  · have e1 : owR T t = -2 := by unfold owR; rw [if_neg (by rw [o]; decide), if_pos o]
    rw [e1, if_neg (show ¬ lg_cmp (-2) (-1) = 0 from fun x => absurd ((lg_cmp_eq _ _).mp x) (by decide)), if_neg (show ¬ (T t).1 = 13 by rw [o]; decide)]
    cases h with
    | none =>
      rw [if_pos (show cR b none = -1 from rfl)]
      rfl
    | some c =>
      have := hh c rfl
      rw [if_neg (show ¬ cR b (some c) = -1 from nI_m1 (by omega)), if_pos ((lg_cmp_eq _ _).mpr rfl)]
      dsimp only
      rw [if_pos o]
      unfold b_304_31 b_304_28
      cases beh with
      | true => rw [if_neg (show ¬ b2 true = 0 by decide)]; rfl
      | false => rw [if_pos (show b2 false = 0 from rfl), if_pos ((lg_cmp_eq _ _).mpr rfl)]; rfl
  · have e1 : owR T t = -1 := by unfold owR; rw [if_neg (by rw [o]; decide), if_neg (by rw [o]; decide)]
    rw [e1, if_pos ((lg_cmp_eq _ _).mpr rfl), if_pos o]
    rfl
  · obtain ⟨n1, n2⟩ := J.2.2.2.2.2.2 t ht o
    rw [k3 o, if_neg (fun x => n1 ((lg_cmp_eq _ _).mp x)), if_neg (show ¬ (T t).1 = 13 by rw [o]; decide)]
    cases h with
    | none =>
      rw [if_pos (show cR b none = -1 from rfl)]
      rfl
    | some c =>
      have := hh c rfl
      rw [if_neg (show ¬ cR b (some c) = -1 from nI_m1 (by omega)), if_neg (fun x => n2 ((lg_cmp_eq _ _).mp x))]
      dsimp only
      unfold b_304_31
      rw [if_neg (fun x => n2 ((lg_cmp_eq _ _).mp x)), if_neg (show ¬ (T t).1 = 12 by rw [o]; decide), xV_97, show cR b (some c) = nI (16 * b + c) from rfl, x_305 J this, bI_s]
      cases hn : nmK T L c (kyT T t) with
      | none => rfl
      | some i =>
        have i5m' := nmK_lt J.2.2.2.2.2.1 this hn
        have e : oR i = nI i := by
          unfold oR
          rw [if_neg (by omega), if_neg (by omega)]
        show some (some (Value.int (nI i)), mjW0 s) = some (some (Value.int (oR i)), mjW0 s)
        rw [e]
theorem ownR_9 {o : Option Nat} (ho : ∀ x, o = some x → x ≤ 6) : ownR o = -9 ↔ o = none := by
  cases o with
  | none => exact ⟨fun _ => rfl, fun _ => rfl⟩
  | some x =>
    have := ho x rfl
    refine ⟨fun e => ?_, fun e => by cases e⟩
    have e' : oR x = -9 := e
    unfold oR at e'
    by_cases g5 : x = 5
    · rw [if_pos g5] at e'; exact absurd e' (by decide)
    · rw [if_neg g5] at e'
      by_cases g6 : x = 6
      · rw [if_pos g6] at e'; exact absurd e' (by decide)
      · rw [if_neg g6] at e'
        have : ¬ nI x < 0 := nI_pos (by omega)
        rw [e'] at this
        exact absurd (by decide) this
theorem owT_le (hn : HN T N L) (hh : ∀ c, h = some c → c < L.length) {x : Nat} (e : owT T L h beh t = some x) : x ≤ 6 := by
  unfold owT at e
  by_cases g : (T t).1 = 13
  · rw [if_pos g] at e; cases e; omega
  · rw [if_neg g] at e
    cases h with
    | none => cases e
    | some c =>
      dsimp only at e
      by_cases g2 : (T t).1 = 12
      · rw [if_pos g2] at e
        by_cases g3 : beh = true
        · rw [if_pos g3] at e; cases e
        · rw [if_neg g3] at e; cases e; omega
      · rw [if_neg g2] at e
        have := nmK_lt hn (hh c rfl) e
        omega
end MJA66
end
