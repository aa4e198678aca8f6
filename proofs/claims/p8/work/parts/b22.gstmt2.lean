/-! ===== the orders' brackets: every STATEMENT and BLOCK ===== -/
section MJB22
variable {T : TT} {M : Nat}
theorem gdGS.grd2 {i0 : Nat} {p v w u : List Row} {r rj : Row} (hp : sdG p [] ∧ fdG p [] = [] ∧ ∀ y, y ∈ p → nJ y) (hg : gdG v) (hn : ∀ y, y ∈ v → nJ y) (hr : r.1 = 21) (hj : (rj.1 = 22 ∧ rj.2.2.1 = nI (i0 + (p.length + v.length + 1 + w.length + 1 + u.length))) ∨ (rj.1 = 23 ∧ ∃ x r', x < p.length ∧ p[x]? = some r' ∧ r'.1 = 2 ∧ rj.2.2.1 = nI (i0 + x))) (hw : gdGS (i0 + (p.length + v.length + 1)) w) (hu : gdGS (i0 + (p.length + v.length + 1 + w.length + 1)) u) (ha : r.2.2.1 = nI (i0 + (p.length + v.length + 1 + w.length + 1))) : gdGS i0 ((p ++ v ++ [r]) ++ (w ++ ([rj] ++ u))) := by
  obtain ⟨p1, p2, p3⟩ := hp
  obtain ⟨a1, a2⟩ := hg []
  obtain ⟨w1, w2, w3⟩ := hw
  obtain ⟨u1, u2, u3⟩ := hu
  have hj' : rj.1 = 22 ∨ rj.1 = 23 := hj.elim (fun h => Or.inl h.1) (fun h => Or.inr h.1)
  obtain ⟨A, hA⟩ : ∃ A, A = p ++ v ++ [r] := ⟨_, rfl⟩
  have Al : A.length = p.length + v.length + 1 := by rw [hA, List.length_append, List.length_append, List.length_singleton]
  have A1 : sdG A [] ∧ fdG A [] = [] := by
    have f : fdG (p ++ v) [] = [(0, 0, 0)] := by rw [fdG_app, p2, a2]
    rw [hA, sdG_app, sdG_app, fdG_app (p ++ v), f, p2]
    exact ⟨⟨⟨p1, a1⟩, okG.o (Or.inr (Or.inl hr)), trivial⟩, nxG_o (Or.inr (Or.inl hr)) _⟩
  have j1 : okG rj [] := okG.n (by rcases hj' with h | h <;> rw [h] <;> decide)
  have j2 : nxG rj [] = [] := nxG_n (by rcases hj' with h | h <;> rw [h] <;> decide) _
  obtain ⟨B, hB⟩ : ∃ B, B = A ++ w ++ [rj] := ⟨_, rfl⟩
  have Bl : B.length = p.length + v.length + 1 + w.length + 1 := by rw [hB, List.length_append, List.length_append, List.length_singleton, Al]
  have B1 : sdG B [] ∧ fdG B [] = [] := by
    have f : fdG (A ++ w) [] = [] := by rw [fdG_app, A1.2, w2]
    rw [hB, sdG_app, sdG_app, fdG_app (A ++ w), f, A1.2]
    exact ⟨⟨⟨A1.1, w1⟩, j1, trivial⟩, j2⟩
  rw [← hA]
  have big : A ++ (w ++ ([rj] ++ u)) = B ++ u := by rw [hB, List.append_assoc, List.append_assoc]
  have full : sdG (B ++ u) [] ∧ fdG (B ++ u) [] = [] := by
    rw [sdG_app, fdG_app, B1.2]
    exact ⟨⟨B1.1, u1⟩, u2⟩
  refine ⟨by rw [big]; exact full.1, by rw [big]; exact full.2, ?_⟩
  have JA : JTi i0 (A ++ (w ++ ([rj] ++ u))) 0 A := by
    rw [hA]
    refine JTi.app (JTi.nj (nj_app p3 hn)) (JTi.one (fun _ => ?_) (fun h => absurd (hr.symm.trans h) (by decide)))
    rw [← hA, big]
    refine ⟨B.length, ?_, by rw [List.length_append]; omega, by rw [ha, Bl], ?_⟩
    · rw [List.length_append]; omega
    · have := tk_add B u 0
      rw [Nat.add_zero, List.take_zero, List.append_nil] at this
      rw [this]
      exact B1.2
  have JW : JTi i0 (A ++ (w ++ ([rj] ++ u))) A.length w := JTi.sub (by rw [Al]; exact w3) A1.2
  have JJ : JTi i0 (A ++ (w ++ ([rj] ++ u))) (A.length + w.length) [rj] := by
    refine JTi.one (fun h => ?_) (fun h => ?_)
    · rcases hj with ⟨h1, h2⟩ | ⟨h1, _⟩
      · refine ⟨(B ++ u).length, ?_, by rw [big]; exact Nat.le_refl _, by rw [h2, List.length_append, Bl], ?_⟩
        · rw [List.length_append, Bl, Al]; omega
        · rw [big, List.take_length]; exact full.2
      · rcases h with h | h <;> exact absurd (h1.symm.trans h) (by decide)
    · rcases hj with ⟨h1, h2⟩ | ⟨h1, x, r', x1, x2, x3, x4⟩
      · exact absurd (h1.symm.trans h) (by decide)
      · refine ⟨x, r', by rw [Al]; omega, ?_, x3, x4⟩
        rw [hA, List.append_assoc, List.append_assoc, List.getElem?_append_left x1]
        exact x2
  have JU : JTi i0 (A ++ (w ++ ([rj] ++ u))) (A.length + w.length + 1) u := by
    rw [big]
    have := JTi.sub (i0 := i0) (a := B) (os := u) (c := []) (by rw [Bl]; exact u3) B1.2
    rw [List.append_nil, Bl] at this
    rw [Al]
    exact this
  have e0 : ∀ n : Nat, 0 + n = n := fun n => Nat.zero_add n
  refine JTi.app JA ?_
  rw [e0]
  exact JTi.app JW (JTi.app JJ JU)
theorem pGrd_gg {bl : Nat → Nat → Nat → Nat → PY} {o c td kq i0 : Nat} {x : PZ × PB} (ho : o ≤ 12) (hr : ∀ c td kq i0 x, bl c td kq i0 = .inr x → gdGS i0 x.2.2.2.1) (h : pGrd T M bl o c td kq i0 = .inr x) : gdG x.1.2.2.2.1 ∧ (∀ y, y ∈ x.1.2.2.2.1 → nJ y) ∧ gdGS (i0 + x.1.2.2.2.1.length + 1) x.2.2.2.2.1 := by
  unfold pGrd at h
  by_cases a : (T (c + 1)).1 = 40
  · rw [if_pos a] at h
    by_cases b : o = 12
    · rw [if_pos b] at h; cases h
    rw [if_neg b] at h
    cases hv : prV T M (o + 1) (c + 2) kq with
    | inl e => rw [hv] at h; cases h
    | inr v =>
      rw [hv] at h
      dsimp only at h
      by_cases g : (T v.1).1 = 41
      · rw [if_pos g] at h
        cases hb : bl (v.1 + 1) td (kq + v.2.2.1.length) (i0 + v.2.2.2.1.length + 1) with
        | inl e => rw [hb] at h; cases h
        | inr w =>
          rw [hb] at h
          cases h
          exact ⟨prV_gg hv, prV_nj (by omega) hv, hr _ _ _ _ _ hb⟩
      · rw [if_neg g] at h; cases h
  · rw [if_neg a] at h; cases h
theorem nj_c {r : Row} (h : r.1 = 1 ∨ r.1 = 2) : nJ r := by
  unfold nJ
  rcases h with h | h <;> rw [h] <;> decide
theorem pIf_gg {bl : Nat → Nat → Nat → Nat → PY} {o c td kq i0 : Nat} {y : PB} (ho : o ≤ 12) (hr : ∀ c td kq i0 x, bl c td kq i0 = .inr x → gdGS i0 x.2.2.2.1) (h : pIf T M bl o c td kq i0 = .inr y) : gdGS i0 y.2.2.2.1 := by
  unfold pIf at h
  cases hg : pGrd T M bl o c td kq (i0 + 1) with
  | inl e => rw [hg] at h; cases h
  | inr x =>
    rw [hg] at h
    obtain ⟨g1, g2, g3⟩ := pGrd_gg ho hr hg
    obtain ⟨v, w⟩ := x
    dsimp only at h g1 g2 g3
    by_cases e16 : (T w.1).1 = 16
    · rw [if_pos e16] at h
      cases hb : bl (w.1 + 1) w.2.1 (kq + v.2.2.1.length + w.2.2.1.length) (i0 + 3 + v.2.2.2.1.length + w.2.2.2.1.length) with
      | inl e => rw [hb] at h; cases h
      | inr u =>
        rw [hb] at h
        have u3 := hr _ _ _ _ _ hb
        cases h
        have k := gdGS.grd2 (i0 := i0) (p := [oLine T c]) (v := v.2.2.2.1) (w := w.2.2.2.1) (u := u.2.2.2.1) (r := (21, (T c).2.1, nI (i0 + 3 + v.2.2.2.1.length + w.2.2.2.1.length), 0, 0)) (rj := (22, -1, nI (i0 + 3 + v.2.2.2.1.length + w.2.2.2.1.length + u.2.2.2.1.length), 0, 0)) ⟨⟨okG.n (Or.inl rfl), trivial⟩, nxG_n (r := oLine T c) (Or.inr (Or.inr (Or.inr (Or.inr (Or.inl rfl))))) _, nj_one (nj_c (Or.inl rfl))⟩ g1 g2 rfl (Or.inl ⟨rfl, by rw [List.length_singleton]; exact congrArg nI (by omega)⟩) (by rw [List.length_singleton, show i0 + (1 + v.2.2.2.1.length + 1) = i0 + 1 + v.2.2.2.1.length + 1 by omega]; exact g3) (by rw [List.length_singleton, show i0 + (1 + v.2.2.2.1.length + 1 + w.2.2.2.1.length + 1) = i0 + 3 + v.2.2.2.1.length + w.2.2.2.1.length by omega]; exact u3) (by rw [List.length_singleton]; exact congrArg nI (by omega))
        simp only [List.append_assoc, List.cons_append, List.nil_append] at k ⊢
        exact k
    · rw [if_neg e16] at h
      cases h
      exact gdGS.grd (Or.inl rfl) g1 g2 rfl g3 (congrArg nI (by omega))
theorem pWhile_gg {bl : Nat → Nat → Nat → Nat → PY} {o c td kq i0 : Nat} {y : PB} (ho : o ≤ 12) (hr : ∀ c td kq i0 x, bl c td kq i0 = .inr x → gdGS i0 x.2.2.2.1) (h : pWhile T M bl o c td kq i0 = .inr y) : gdGS i0 y.2.2.2.1 := by
  unfold pWhile at h
  cases hg : pGrd T M bl o c td kq (i0 + 2) with
  | inl e => rw [hg] at h; cases h
  | inr x =>
    rw [hg] at h
    obtain ⟨g1, g2, g3⟩ := pGrd_gg ho hr hg
    obtain ⟨v, w⟩ := x
    dsimp only at g1 g2 g3
    cases h
    have k := gdGS.grd2 (i0 := i0) (p := [oLine T c, (2, (T c).2.1, 0, 0, 0)]) (v := v.2.2.2.1) (w := w.2.2.2.1) (u := []) (r := (21, (T c).2.1, nI (i0 + 4 + v.2.2.2.1.length + w.2.2.2.1.length), 0, 0)) (rj := (23, -1, nI (i0 + 1), 0, 0)) ⟨⟨okG.n (Or.inl rfl), okG.n (Or.inr (Or.inl rfl)), trivial⟩, rfl, fun y hy => by
      rcases List.mem_cons.mp hy with e | e
      · rw [e]; exact nj_c (Or.inl rfl)
      · exact nj_one (nj_c (Or.inr rfl)) y e⟩ g1 g2 rfl (Or.inr ⟨rfl, 1, (2, (T c).2.1, 0, 0, 0), (by show 1 < 2; omega), rfl, rfl, rfl⟩) (by rw [show [oLine T c, (2, (T c).2.1, 0, 0, 0)].length = 2 from rfl, show i0 + (2 + v.2.2.2.1.length + 1) = i0 + 2 + v.2.2.2.1.length + 1 by omega]; exact g3) gdGS.nil (by rw [show [oLine T c, (2, (T c).2.1, 0, 0, 0)].length = 2 from rfl]; exact congrArg nI (by omega))
    simp only [List.append_assoc, List.cons_append, List.nil_append, List.append_nil] at k ⊢
    exact k
theorem pGive_gg {o c td kq i0 : Nat} {w : Int32} {y : PB} (ho : o ≤ 12) (hw : w = 28 ∨ w = 24) (h : pGive T M o c td kq w = .inr y) : gdGS i0 y.2.2.2.1 := by
  unfold pGive at h
  cases hv : prV T M o (c + 1) kq with
  | inl e => rw [hv] at h; cases h
  | inr v =>
    rw [hv] at h
    dsimp only at h
    by_cases g : (T v.1).1 = 59
    · rw [if_pos g] at h
      cases h
      exact gdGS.cons (Or.inl rfl) (gdGS.pop (prV_gg hv) (prV_nj ho hv) (hw.elim (fun e => Or.inr (Or.inr (Or.inr ⟨e, rfl⟩))) (fun e => Or.inr (Or.inl e))))
    · rw [if_neg g] at h; cases h
theorem left_gg {v : PZ} (gv : gdG v.2.2.2.1) (hn : ∀ y, y ∈ v.2.2.2.1 → nJ y) (h1 : v.2.1 = 1 → v.2.2.1 = [] ∧ ∃ r : Row, v.2.2.2.1 = [r]) (h2 : sh2 v) (hs : v.2.1 = 1 ∨ v.2.1 = 2) : sdG (oLeft v.2.1 v.2.2.2.1) [] ∧ fdG (oLeft v.2.1 v.2.2.2.1) [] = [(1, if v.2.1 = 1 then 0 else 1, 0)] ∧ ∀ y, y ∈ oLeft v.2.1 v.2.2.2.1 → nJ y := by
  rcases hs with s1 | s2
  · obtain ⟨ek, r, er⟩ := h1 s1
    rw [s1, er, if_pos rfl]
    have e : oLeft 1 [r] = [(15, r.2)] := rfl
    rw [e]
    exact ⟨⟨okG.l rfl, trivial⟩, nxG_15 (r := (15, r.2)) rfl _, nj_one (by unfold nJ; show ¬ ((15 : Int32) = 21 ∨ (15 : Int32) = 22 ∨ (15 : Int32) = 23); decide)⟩
  · obtain ⟨b, r, er, e10⟩ := h2 s2
    have n1 : ¬ v.2.1 = 1 := by rw [s2]; decide
    obtain ⟨a, f⟩ := gv []
    rw [er, sdG_app] at a
    rw [er, fdG_app] at f
    have f' : fdG b [] = [(0, 0, 0)] := by
      have q : nxG r (fdG b []) = [(0, 0, 0)] := f
      rw [nxG_n (Or.inr (Or.inl e10))] at q
      exact q
    have e : oLeft v.2.1 (b ++ [r]) = b ++ [(16, r.2)] := by
      unfold oLeft oLast
      rw [if_neg n1, List.dropLast_concat, List.getLastD_concat]
    rw [if_neg n1, er, e]
    refine ⟨?_, ?_, nj_app (fun y hy => hn y (by rw [er]; exact List.mem_append_left _ hy)) (nj_one (by unfold nJ; show ¬ ((16 : Int32) = 21 ∨ (16 : Int32) = 22 ∨ (16 : Int32) = 23); decide))⟩
    · rw [sdG_app, f']
      exact ⟨a.1, okG.f rfl, trivial⟩
    · rw [fdG_app, f']
      exact nxG_16 (r := (16, r.2)) rfl [(0, 0, 0)]
theorem pUse_gg {o c td kq i0 : Nat} {y : PB} (ho : o ≤ 12) (h : pUse T M o c td kq i0 = .inr y) : gdGS i0 y.2.2.2.1 := by
  unfold pUse at h
  cases hv : prV T M o c kq with
  | inl e => rw [hv] at h; cases h
  | inr v =>
    rw [hv] at h
    dsimp only at h
    by_cases g : (T v.1).1 = 61 ∧ (v.2.1 = 1 ∨ v.2.1 = 2)
    · rw [if_pos g] at h
      cases hv2 : prV T M o (v.1 + 1) (kq + v.2.2.1.length) with
      | inl e => rw [hv2] at h; cases h
      | inr w =>
        rw [hv2] at h
        dsimp only at h
        by_cases g2 : (T w.1).1 = 59
        · rw [if_pos g2] at h
          have s1 : v.2.1 = 1 → v.2.2.1 = [] ∧ ∃ r : Row, v.2.2.2.1 = [r] := fun e => by
            obtain ⟨_, ey⟩ := prE_s1 100 0 o c kq v (by omega) hv e
            rw [ey]
            exact ⟨rfl, _, rfl⟩
          have s2 := prE_s2 100 0 o c kq v (by omega) hv
          cases h
          refine gdGS.cons (Or.inl rfl) ?_
          obtain ⟨l1, l2, l3⟩ := left_gg (prV_gg hv) (prV_nj ho hv) s1 s2 g.2
          obtain ⟨w1, w2⟩ := prV_gg hv2 [(1, if v.2.1 = 1 then 0 else 1, 0)]
          have f : fdG (oLeft v.2.1 v.2.2.2.1 ++ w.2.2.2.1) [] = [(0, 0, 0), (1, if v.2.1 = 1 then 0 else 1, 0)] := by rw [fdG_app, l2, w2]
          refine ⟨?_, ?_, JTi.nj (nj_app (nj_app l3 (prV_nj ho hv2)) (nj_one ?_))⟩
          · rw [sdG_app, sdG_app, f, l2]
            refine ⟨⟨l1, w1⟩, ?_, trivial⟩
            by_cases q : v.2.1 = 1
            · simp only [if_pos q]; exact okG.p rfl
            · simp only [if_neg q]; exact okG.q rfl
          · rw [fdG_app, f]
            by_cases q : v.2.1 = 1
            · simp only [if_pos q]; exact nxG_17 (r := (17, (T v.1).2.1, nI (i0 + v.2.2.2.1.length), (oLast v.2.2.2.1).2.1, 0)) (Or.inl rfl) [(0, 0, 0), (1, 0, 0)]
            · simp only [if_neg q]; exact nxG_17 (r := (18, (T v.1).2.1, nI (i0 + v.2.2.2.1.length), (oLast v.2.2.2.1).2.1, 0)) (Or.inr rfl) [(0, 0, 0), (1, 1, 0)]
          · unfold nJ
            by_cases q : v.2.1 = 1
            · simp only [if_pos q]; decide
            · simp only [if_neg q]; decide
        · rw [if_neg g2] at h; cases h
    · rw [if_neg g] at h
      by_cases g2 : (T v.1).1 = 59 ∧ v.2.1 = 3
      · rw [if_pos g2] at h
        cases h
        exact gdGS.cons (Or.inl rfl) (gdGS.pop (prV_gg hv) (prV_nj ho hv) (Or.inr (Or.inr (Or.inl rfl))))
      · rw [if_neg g2] at h; cases h
theorem pSeq_gg {rd : Nat → Nat → Nat → Nat → PY} {kq i0 : Nat} (hr : ∀ c td kq i0 x, rd c td kq i0 = .inr x → gdGS i0 x.2.2.2.1) : ∀ (k : Nat) (z y : PB), gdGS i0 z.2.2.2.1 → pSeq T rd kq i0 k z = .inr y → gdGS i0 y.2.2.2.1
  | 0, z, y, hz, h => by cases h; exact hz
  | k + 1, z, y, hz, h => by
    unfold pSeq at h
    by_cases g : (T z.1).1 = 125
    · rw [if_pos g] at h
      cases h
      exact hz
    · rw [if_neg g] at h
      cases hd : rd z.1 z.2.1 (kq + z.2.2.1.length) (i0 + z.2.2.2.1.length) with
      | inl e => rw [hd] at h; cases h
      | inr x =>
        rw [hd] at h
        exact pSeq_gg hr k (x.1, x.2.1, z.2.2.1 ++ x.2.2.1, z.2.2.2.1 ++ x.2.2.2.1, z.2.2.2.2 ++ x.2.2.2.2) y (hz.app (hr _ _ _ _ _ hd)) h
/-- EVERY STATEMENT, EVERY BLOCK -/
theorem prS_gg : ∀ (f tag o c td kq i0 : Nat) (y : PB), tag ≤ 1 → o ≤ 12 → prS T M f tag o c td kq i0 = .inr y → gdGS i0 y.2.2.2.1
  | 0, _, _, _, _, _, _, _, _, _, h => by cases h
  | f + 1, 0, o, c, td, kq, i0, y, _, ho, h => by
    rw [prS_0] at h
    unfold pBlk at h
    by_cases a : (T c).1 = 123
    · rw [if_pos a] at h
      by_cases b : o = 12
      · rw [if_pos b] at h; cases h
      rw [if_neg b] at h
      cases hd : pSeq T (prS T M f 1 (o + 1)) kq i0 M (c + 1, td, [], [(26, (T (c + 1)).2.1, 0, 0, 0)], []) with
      | inl e => rw [hd] at h; cases h
      | inr z =>
        rw [hd] at h
        dsimp only at h
        have hz := pSeq_gg (fun c td kq i0 x hx => prS_gg f 1 (o + 1) c td kq i0 x (by omega) (by omega) hx) _ _ _ (gdGS.one (r := (26, (T (c + 1)).2.1, 0, 0, 0)) (Or.inr (Or.inr (Or.inr (Or.inl rfl))))) hd
        by_cases g : (T z.1).1 = 125
        · rw [if_pos g] at h
          cases h
          exact hz.snoc (Or.inr (Or.inr (Or.inr (Or.inr rfl))))
        · rw [if_neg g] at h; cases h
    · rw [if_neg a] at h; cases h
  | f + 1, 1, o, c, td, kq, i0, y, _, ho, h => by
    rw [prS_1] at h
    have bl : ∀ c td kq i0 x, prS T M f 0 o c td kq i0 = .inr x → gdGS i0 x.2.2.2.1 := fun c td kq i0 x hx => prS_gg f 0 o c td kq i0 x (by omega) ho hx
    by_cases e1 : (T c).1 = 2 ∨ (T c).1 = 10
    · rw [if_pos e1] at h; exact pDecl_gg ho h
    rw [if_neg e1] at h
    by_cases e15 : (T c).1 = 15
    · rw [if_pos e15] at h; exact pIf_gg ho bl h
    rw [if_neg e15] at h
    by_cases e17 : (T c).1 = 17
    · rw [if_pos e17] at h; exact pWhile_gg ho bl h
    rw [if_neg e17] at h
    by_cases e18 : (T c).1 = 18
    · rw [if_pos e18] at h; exact pGive_gg ho (Or.inl rfl) h
    rw [if_neg e18] at h
    by_cases e19 : (T c).1 = 19
    · rw [if_pos e19] at h; exact pGive_gg ho (Or.inr rfl) h
    rw [if_neg e19] at h
    by_cases e123 : (T c).1 = 123
    · rw [if_pos e123] at h
      exact prS_gg f 0 o c td kq i0 y (by omega) ho h
    rw [if_neg e123] at h
    exact pUse_gg ho h
  | f + 1, t + 2, o, c, td, kq, i0, y, ht, _, h => by omega
end MJB22
