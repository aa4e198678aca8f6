/-! ===== the orders of every STATEMENT ===== -/
section MJA91
variable {T : TT} {M : Nat}
theorem gdQ.app {e c td kq i0 : Nat} {z y : PB} (hz : gdQ T e c td kq i0 z) (hy : gdS T z.1 z.2.1 (kq + z.2.2.1.length) (i0 + z.2.2.2.1.length) y) (h1 : c ≤ z.1) (h2 : z.1 ≤ y.1) {ag : List (Nat × Nat)} : gdQ T e c td kq i0 (y.1, y.2.1, z.2.2.1 ++ y.2.2.1, z.2.2.2.1 ++ y.2.2.2.1, ag) := by
  refine ⟨(hz.1.mono (Nat.le_refl _) h2).app (hy.1.mono h1 (Nat.le_refl _)), fun hb lx D => ?_⟩
  have hb' : kq + (z.2.2.1 ++ y.2.2.1).length < 100000 := hb
  rw [List.length_append] at hb'
  obtain ⟨l1, a1, a2⟩ := hz.2 (by omega) lx D
  obtain ⟨l2, b1, b2⟩ := hy.2 (by omega) l1 (D + e)
  refine ⟨l2, ?_, ?_⟩
  · show sdW (z.2.2.2.1 ++ y.2.2.2.1) i0 _
    rw [sdW_app, a2]
    exact ⟨a1, b1⟩
  · show fdW (z.2.2.2.1 ++ y.2.2.2.1) i0 _ = _
    rw [fdW_app, a2, b2]
    show ((kq + z.2.2.1.length + y.2.2.1.length, 0, [], 0), y.2.1, l2, false, D + e) = ((kq + (z.2.2.1 ++ y.2.2.1).length, 0, [], 0), y.2.1, l2, false, D + e)
    rw [List.length_append, Nat.add_assoc kq]
theorem pSeq_gd {rd : Nat → Nat → Nat → Nat → PY} {kq i0 c td : Nat} (hr : ∀ c td kq i0 x, td ≤ 16 → rd c td kq i0 = .inr x → c < x.1 ∧ x.2.1 ≤ 16 ∧ gdS T c td kq i0 x) : ∀ (k : Nat) (z y : PB), c ≤ z.1 → z.2.1 ≤ 16 → gdQ T 1 c td kq i0 z → pSeq T rd kq i0 k z = .inr y → c ≤ y.1 ∧ y.2.1 ≤ 16 ∧ gdQ T 1 c td kq i0 y
  | 0, z, y, hc, ht, hz, h => by cases h; exact ⟨hc, ht, hz⟩
  | k + 1, z, y, hc, ht, hz, h => by
    unfold pSeq at h
    by_cases g : (T z.1).1 = 125
    · rw [if_pos g] at h
      cases h
      exact ⟨hc, ht, hz⟩
    · rw [if_neg g] at h
      cases hd : rd z.1 z.2.1 (kq + z.2.2.1.length) (i0 + z.2.2.2.1.length) with
      | inl e => rw [hd] at h; cases h
      | inr x =>
        rw [hd] at h
        obtain ⟨x1, x2, x3⟩ := hr _ _ _ _ _ ht hd
        exact pSeq_gd hr k (x.1, x.2.1, z.2.2.1 ++ x.2.2.1, z.2.2.2.1 ++ x.2.2.2.1, z.2.2.2.2 ++ x.2.2.2.2) y (by show c ≤ x.1; omega) x2 (hz.app x3 hc (by omega)) h
/-- the row at the beginning, the row at the end -/
theorem gdS.line {c c' td kq i0 : Nat} {td' : Nat} {ks : List Nat} {os : List Row} {r : Row} {ag ag' : List (Nat × Nat)} (hr : r.1 = 1 ∨ r.1 = 2 ∨ r.1 = 22 ∨ r.1 = 23) (h : gdS T c td kq (i0 + 1) (c', td', ks, os, ag)) : gdS T c td kq i0 (c', td', ks, r :: os, ag') := by
  refine ⟨h.1, fun hb lx D => ?_⟩
  obtain ⟨l1, a1, a2⟩ := h.2 hb lx D
  refine ⟨l1, ⟨okW.n hr, ?_⟩, ?_⟩
  · rw [nx_same hr]; exact a1
  · show fdW os (i0 + 1) (nxW r i0 _) = _
    rw [nx_same hr]; exact a2
theorem gdS.last {c c' c'' td kq i0 : Nat} {td' : Nat} {ks : List Nat} {os : List Row} {r : Row} {ag ag' : List (Nat × Nat)} (hr : r.1 = 1 ∨ r.1 = 2 ∨ r.1 = 22 ∨ r.1 = 23) (h : gdS T c td kq i0 (c', td', ks, os, ag)) (hc : c' ≤ c'') : gdS T c td kq i0 (c'', td', ks, os ++ [r], ag') := by
  refine ⟨h.1.mono (Nat.le_refl _) hc, fun hb lx D => ?_⟩
  obtain ⟨l1, a1, a2⟩ := h.2 hb lx D
  have a2' : fdW os i0 ((kq, 0, [], 0), td, lx, false, D) = ((kq + ks.length, 0, [], 0), td', l1, false, D) := a2
  refine ⟨l1, ?_, ?_⟩
  · show sdW (os ++ [r]) i0 _
    rw [sdW_app]
    exact ⟨a1, okW.n hr, trivial⟩
  · show fdW (os ++ [r]) i0 _ = _
    rw [fdW_app, a2']
    exact nx_same hr _ _
/-- an E and an order that takes its value -/
theorem gdS.pop {c c' td kq i0 : Nat} {y : PZ} {r : Row} {ag : List (Nat × Nat)} (hy : gdE T c kq 40 12 112 y) (hr : r.1 = 21 ∨ r.1 = 24 ∨ r.1 = 28 ∨ r.1 = 25) (h28 : r.1 = 28 → ¬ r.2.2.1 = 0) (hc : y.1 ≤ c') : gdS T c td kq i0 (c', td, y.2.2.1, y.2.2.2.1 ++ [r], ag) := by
  refine ⟨hy.1.mono (Nat.le_refl _) hc, fun _ lx D => ?_⟩
  obtain ⟨a1, a2⟩ := hy.W (i := i0) (h := 0) (p := []) (q := 0) (by omega) (Nat.zero_le _) (by omega) (td, lx, false, D)
  refine ⟨lx, ?_, ?_⟩
  · show sdW (y.2.2.2.1 ++ [r]) i0 _
    rw [sdW_app, a2]
    exact ⟨a1, okW.o hr h28 (Nat.le_refl _) (Nat.le_refl _), trivial⟩
  · show fdW (y.2.2.2.1 ++ [r]) i0 _ = _
    rw [fdW_app, a2]
    exact nx_pop hr _ _
theorem pDecl_gd {o c td kq i0 : Nat} {y : PB} (ho : o ≤ 12) (ht : td ≤ 16) (h : pDecl T M o c td kq = .inr y) : y.2.1 ≤ 16 ∧ gdS T c td kq i0 y := by
  unfold pDecl at h
  cases hp : pType T c with
  | inl x => rw [hp] at h; cases h
  | inr c1 =>
    rw [hp] at h
    dsimp only at h
    have l1 := pType_len hp
    by_cases h3 : (T c1).1 = 3
    · rw [if_pos h3] at h
      by_cases t16 : td = 16
      · rw [if_pos t16] at h; cases h
      rw [if_neg t16] at h
      by_cases h61 : (T (c1 + 1)).1 = 61
      · rw [if_pos h61] at h
        cases hv : prV T M o (c1 + 2) (kq + (if (T c).1 = 10 then 0 else 1)) with
        | inl x => rw [hv] at h; cases h
        | inr v =>
          rw [hv] at h
          dsimp only at h
          have gv := prV_gd ho hv
          have lv := (prV_ln hv).1
          by_cases h59 : (T v.1).1 = 59
          · rw [if_pos h59] at h
            cases h
            refine ⟨by show td + 1 ≤ 16; omega, ?_⟩
            have main : ∀ (k1 : List Nat) (a : Int32) (r19 r20 : Row), r19.1 = 19 → r19.2.2.1 = a → r20.1 = 20 → r20.2.2.1 = nI td → (a = -1 ∧ k1 = [] ∧ (if (T c).1 = 10 then 0 else 1) = 0 ∨ (kq < 100000 → ¬ a = -1) ∧ a = nI kq ∧ k1 = [c] ∧ (if (T c).1 = 10 then 0 else 1) = 1 ∧ ∃ c', pKind T c = .inr c' ∧ c < c1) → gdS T c td kq i0 (v.1 + 1, td + 1, k1 ++ v.2.2.1, oLine T c :: r19 :: (v.2.2.2.1 ++ [r20]), v.2.2.2.2) := by
              intro k1 a r19 r20 e19 ea e20 eb hk
              have kr : kdR T c (v.1 + 1) (k1 ++ v.2.2.1) := by
                refine kdR.app ?_ (gv.1.mono (by omega) (by omega))
                rcases hk with ⟨_, e, _⟩ | ⟨_, _, e, _, c', e5, e6⟩
                · rw [e]; exact kdR.nil
                · rw [e]; exact kdR.one e5 (Nat.le_refl _) (by omega)
              refine ⟨kr, fun hb lx D => ⟨lx, ?_, ?_⟩⟩
              all_goals
                have n19 : nxW r19 (i0 + 1) ((kq, 0, [], 0), td, lx, false, D) = ((kq + (if (T c).1 = 10 then 0 else 1), 0, [], 0), td, lx, true, D) := by
                  unfold nxW
                  rw [e19, if_neg (by decide), if_neg (by decide), if_neg (by decide), if_neg (by decide), if_pos rfl, ea]
                  rcases hk with ⟨q1, _, q3⟩ | ⟨q1, _, _, q3, _⟩
                  · rw [if_pos q1, q3]
                    rfl
                  · rw [if_neg (q1 (by omega)), q3]
                obtain ⟨a1, a2⟩ := gv.W (i := i0 + 2) (h := 0) (p := []) (q := 0) (by omega) (Nat.zero_le _) (by omega) (td, lx, true, D)
                have n20 : ∀ j x, nxW r20 j x = ((x.1.1, x.1.2.1 - 1, x.1.2.2.1, x.1.2.2.2 - 1), x.2.1 + 1, x.2.2.1, false, x.2.2.2.2) := by
                  intro j x
                  unfold nxW
                  rw [e20, if_neg (by decide), if_neg (by decide), if_neg (by decide), if_neg (by decide), if_neg (by decide), if_pos rfl]
              · show okW (oLine T c) _ ∧ okW r19 _ ∧ sdW (v.2.2.2.1 ++ [r20]) _ _
                rw [nx_same (r := oLine T c) (Or.inl rfl), n19, sdW_app, a2]
                refine ⟨okW.n (Or.inl rfl), okW.d e19 rfl (by show td < 16; omega) ?_, a1, okW.k e20 rfl (by show td < 16; omega) eb (Nat.le_refl _) (Nat.le_refl _), trivial⟩
                rw [ea]
                rcases hk with ⟨q1, _⟩ | ⟨q1, q2, _⟩
                · exact Or.inl q1
                · exact Or.inr ⟨q1 (by omega), q2⟩
              · show fdW (v.2.2.2.1 ++ [r20]) _ (nxW r19 _ (nxW (oLine T c) i0 _)) = _
                rw [nx_same (r := oLine T c) (Or.inl rfl), n19, fdW_app, a2]
                show nxW r20 _ _ = _
                rw [n20, List.length_append]
                rcases hk with ⟨_, e, q3⟩ | ⟨_, _, e, q3, _⟩
                · rw [e, q3]
                  show ((kq + 0 + v.2.2.1.length, 0, [], 0), td + 1, lx, false, D) = ((kq + (0 + v.2.2.1.length), 0, [], 0), td + 1, lx, false, D)
                  rw [Nat.add_assoc]
                · rw [e, q3]
                  show ((kq + 1 + v.2.2.1.length, 0, [], 0), td + 1, lx, false, D) = ((kq + (1 + v.2.2.1.length), 0, [], 0), td + 1, lx, false, D)
                  rw [Nat.add_assoc]
            by_cases g10 : (T c).1 = 10
            · simp only [if_pos g10]
              exact main [] (-1) _ _ rfl rfl rfl rfl (Or.inl ⟨rfl, rfl, if_pos g10⟩)
            · simp only [if_neg g10]
              have kp : ∃ c', pKind T c = .inr c' := by
                unfold pType at hp
                rw [if_neg g10] at hp
                exact ⟨_, hp⟩
              obtain ⟨c', hc'⟩ := kp
              exact main [c] (nI kq) _ _ rfl rfl rfl rfl (Or.inr ⟨fun hq => nI_m1 (by omega), rfl, rfl, if_neg g10, c', hc', by omega⟩)
          · rw [if_neg h59] at h; cases h
      · rw [if_neg h61] at h; cases h
    · rw [if_neg h3] at h; cases h
theorem gdS.up {c c' td kq i0 : Nat} {y : PB} (h : gdS T c td kq i0 y) (hc : c' ≤ c) : gdS T c' td kq i0 y := ⟨h.1.mono hc (Nat.le_refl _), h.2⟩
theorem pGrd_gd {bl : Nat → Nat → Nat → Nat → PY} {o c td kq i0 : Nat} {x : PZ × PB} (ho : o ≤ 12) (ht : td ≤ 16) (hr : ∀ c td kq i0 x, td ≤ 16 → bl c td kq i0 = .inr x → c < x.1 ∧ x.2.1 ≤ 16 ∧ gdS T c td kq i0 x) (h : pGrd T M bl o c td kq i0 = .inr x) : c < x.2.1 ∧ x.2.2.1 ≤ 16 ∧ ∀ r : Row, r.1 = 21 → gdS T c td kq i0 (x.2.1, x.2.2.1, x.1.2.2.1 ++ x.2.2.2.1, x.1.2.2.2.1 ++ r :: x.2.2.2.2.1, x.1.2.2.2.2 ++ x.2.2.2.2.2) := by
  unfold pGrd at h
  by_cases a : (T (c + 1)).1 = 40
  · rw [if_pos a] at h
    by_cases b : o = 12
    · rw [if_pos b] at h; cases h
    rw [if_neg b] at h
    cases hv : prV T M (o + 1) (c + 2) kq with
    | inl e => rw [hv] at h; cases h
    | inr v =>
      rw [hv] at h
      dsimp only at h
      have gv := prV_gd (by omega) hv
      have lv := (prV_ln hv).1
      by_cases g : (T v.1).1 = 41
      · rw [if_pos g] at h
        cases hb : bl (v.1 + 1) td (kq + v.2.2.1.length) (i0 + v.2.2.2.1.length + 1) with
        | inl e => rw [hb] at h; cases h
        | inr w =>
          rw [hb] at h
          obtain ⟨w1, w2, w3⟩ := hr _ _ _ _ _ ht hb
          cases h
          refine ⟨by show c < w.1; omega, w2, fun r hr21 => ?_⟩
          have p := (gdS.pop (td := td) (i0 := i0) (c' := v.1 + 1) (ag := v.2.2.2.2) gv (Or.inl hr21) (fun x => absurd (hr21.symm.trans x) (by decide)) (by omega)).up (show c ≤ c + 2 by omega)
          have q := gdQ.app (e := 0) p (y := w) (ag := v.2.2.2.2 ++ w.2.2.2.2) (by
            show gdS T (v.1 + 1) td (kq + v.2.2.1.length) (i0 + (v.2.2.2.1 ++ [r]).length) w
            rw [List.length_append, List.length_singleton, ← Nat.add_assoc]
            exact w3) (by show c ≤ v.1 + 1; omega) (by show v.1 + 1 ≤ w.1; omega)
          have e : v.2.2.2.1 ++ r :: w.2.2.2.1 = v.2.2.2.1 ++ [r] ++ w.2.2.2.1 := by rw [List.append_assoc]; rfl
          show gdS T c td kq i0 (w.1, w.2.1, v.2.2.1 ++ w.2.2.1, v.2.2.2.1 ++ r :: w.2.2.2.1, v.2.2.2.2 ++ w.2.2.2.2)
          rw [e]
          exact q
      · rw [if_neg g] at h; cases h
  · rw [if_neg a] at h; cases h
theorem pIf_gd {bl : Nat → Nat → Nat → Nat → PY} {o c td kq i0 : Nat} {y : PB} (ho : o ≤ 12) (ht : td ≤ 16) (hr : ∀ c td kq i0 x, td ≤ 16 → bl c td kq i0 = .inr x → c < x.1 ∧ x.2.1 ≤ 16 ∧ gdS T c td kq i0 x) (h : pIf T M bl o c td kq i0 = .inr y) : y.2.1 ≤ 16 ∧ gdS T c td kq i0 y := by
  unfold pIf at h
  cases hg : pGrd T M bl o c td kq (i0 + 1) with
  | inl e => rw [hg] at h; cases h
  | inr x =>
    rw [hg] at h
    obtain ⟨g1, g2, g3⟩ := pGrd_gd ho ht hr hg
    obtain ⟨v, w⟩ := x
    dsimp only at h g1 g2 g3
    by_cases e16 : (T w.1).1 = 16
    · rw [if_pos e16] at h
      cases hb : bl (w.1 + 1) w.2.1 (kq + v.2.2.1.length + w.2.2.1.length) (i0 + 3 + v.2.2.2.1.length + w.2.2.2.1.length) with
      | inl e => rw [hb] at h; cases h
      | inr u =>
        rw [hb] at h
        obtain ⟨u1, u2, u3⟩ := hr _ _ _ _ _ g2 hb
        cases h
        refine ⟨u2, ?_⟩
        have p := gdS.last (c'' := w.1 + 1) (r := (22, -1, nI (i0 + 3 + v.2.2.2.1.length + w.2.2.2.1.length + u.2.2.2.1.length), 0, 0)) (ag' := []) (Or.inr (Or.inr (Or.inl rfl))) (g3 (21, (T c).2.1, nI (i0 + 3 + v.2.2.2.1.length + w.2.2.2.1.length), 0, 0) rfl) (by omega)
        have q := gdQ.app (e := 0) p (y := u) (ag := []) (by
          refine (show ∀ a b, a = kq + v.2.2.1.length + w.2.2.1.length → b = i0 + 3 + v.2.2.2.1.length + w.2.2.2.1.length → gdS T (w.1 + 1) w.2.1 a b u from fun a b ea eb => ?_) _ _ ?_ ?_
          · rw [ea, eb]; exact u3
          · show kq + (v.2.2.1 ++ w.2.2.1).length = _
            rw [List.length_append, Nat.add_assoc]
          · simp only [List.length_append, List.length_cons, List.length_nil]
            omega) (by show c ≤ w.1 + 1; omega) (by show w.1 + 1 ≤ u.1; omega)
        refine gdS.line (Or.inl rfl) (ag := []) ?_
        simp only [List.append_assoc, List.cons_append, List.nil_append] at q ⊢
        exact q
    · rw [if_neg e16] at h
      cases h
      exact ⟨g2, gdS.line (Or.inl rfl) (g3 _ rfl)⟩
theorem pWhile_gd {bl : Nat → Nat → Nat → Nat → PY} {o c td kq i0 : Nat} {y : PB} (ho : o ≤ 12) (ht : td ≤ 16) (hr : ∀ c td kq i0 x, td ≤ 16 → bl c td kq i0 = .inr x → c < x.1 ∧ x.2.1 ≤ 16 ∧ gdS T c td kq i0 x) (h : pWhile T M bl o c td kq i0 = .inr y) : y.2.1 ≤ 16 ∧ gdS T c td kq i0 y := by
  unfold pWhile at h
  cases hg : pGrd T M bl o c td kq (i0 + 2) with
  | inl e => rw [hg] at h; cases h
  | inr x =>
    rw [hg] at h
    obtain ⟨g1, g2, g3⟩ := pGrd_gd ho ht hr hg
    obtain ⟨v, w⟩ := x
    dsimp only at g1 g2 g3
    cases h
    refine ⟨g2, ?_⟩
    have p := gdS.last (c'' := w.1) (r := (23, -1, nI (i0 + 1), 0, 0)) (ag' := []) (Or.inr (Or.inr (Or.inr rfl))) (g3 (21, (T c).2.1, nI (i0 + 4 + v.2.2.2.1.length + w.2.2.2.1.length), 0, 0) rfl) (Nat.le_refl _)
    refine gdS.line (Or.inl rfl) (ag := []) (gdS.line (i0 := i0 + 1) (Or.inr (Or.inl rfl)) (ag := []) ?_)
    simp only [List.append_assoc, List.cons_append, List.nil_append] at p ⊢
    exact p
theorem pGive_gd {o c td kq i0 : Nat} {w : Int32} {y : PB} (ho : o ≤ 12) (ht : td ≤ 16) (hw : w = 28 ∨ w = 24) (h : pGive T M o c td kq w = .inr y) : y.2.1 ≤ 16 ∧ gdS T c td kq i0 y := by
  unfold pGive at h
  cases hv : prV T M o (c + 1) kq with
  | inl e => rw [hv] at h; cases h
  | inr v =>
    rw [hv] at h
    dsimp only at h
    have gv := prV_gd ho hv
    by_cases g : (T v.1).1 = 59
    · rw [if_pos g] at h
      cases h
      exact ⟨ht, gdS.line (Or.inl rfl) (ag := []) ((gdS.pop gv (hw.elim (fun e => Or.inr (Or.inr (Or.inl e))) (fun e => Or.inr (Or.inl e))) (fun _ => (by decide : ¬ (1 : Int32) = 0)) (by omega)).up (show c ≤ c + 1 by omega))⟩
    · rw [if_neg g] at h; cases h
end MJA91
