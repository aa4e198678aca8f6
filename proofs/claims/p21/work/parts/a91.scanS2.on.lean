section
/-! ===== the orders of every STATEMENT ===== -/
section MJA91
variable {T : TT} {M : Nat}
theorem gdQ.app {e c td kq i0 : Nat} {z y : PB} (hz : gdQ T e c td kq i0 z) (hy : gdS T z.1 z.2.1 (kq + z.2.2.1.length) (i0 + z.2.2.2.1.length) y) (h1 : c ≤ z.1) (h2 : z.1 ≤ y.1) {ag : List (Nat × Nat)} : gdQ T e c td kq i0 (y.1, y.2.1, z.2.2.1 ++ y.2.2.1, z.2.2.2.1 ++ y.2.2.2.1, ag) := by
  refine ⟨(hz.1.mono (Nat.le_refl _) h2).app (hy.1.mono h1 (Nat.le_refl _)), fun hb lx D => ?_⟩
  have hb' : kq + (z.2.2.1 ++ y.2.2.1).length < 100000 := hb
  rw [List.length_append] at hb'
  obtain ⟨l1, a1, a2⟩ := hz.2 (by omega) lx D
  obtain ⟨l2, b1, b2⟩ := hy.2 (by omega) l1 (D + e)
  refine ⟨l2, ?_, ?_⟩
  · show sdW (z.2.2.2.1 ++ y.2.2.2.1) i0 _
    rw [sdW_app, a2]
    exact ⟨a1, b1⟩
  · show fdW (z.2.2.2.1 ++ y.2.2.2.1) i0 _ = _
    rw [fdW_app, a2, b2]
    show ((kq + z.2.2.1.length + y.2.2.1.length, 0, [], 0), y.2.1, l2, false, D + e) = ((kq + (z.2.2.1 ++ y.2.2.1).length, 0, [], 0), y.2.1, l2, false, D + e)
    rw [List.length_append, Nat.add_assoc kq]
theorem pSeq_gd {rd : Nat → Nat → Nat → Nat → PY} {kq i0 c td : Nat} (hr : ∀ c td kq i0 x, td ≤ 16 → rd c td kq i0 = .inr x → c < x.1 ∧ x.2.1 ≤ 16 ∧ gdS T c td kq i0 x) : ∀ (k : Nat) (z y : PB), c ≤ z.1 → z.2.1 ≤ 16 → gdQ T 1 c td kq i0 z → pSeq T rd kq i0 k z = .inr y → c ≤ y.1 ∧ y.2.1 ≤ 16 ∧ gdQ T 1 c td kq i0 y
  | 0, z, y, hc, ht, hz, h => by cases h; exact ⟨hc, ht, hz⟩
  | k + 1, z, y, hc, ht, hz, h => by
    unfold pSeq at h
    by_cases g : (T z.1).1 = 125
    · rw [if_pos g] at h
      cases h
      exact ⟨hc, ht, hz⟩
    · rw [if_neg g] at h
      cases hd : rd z.1 z.2.1 (kq + z.2.2.1.length) (i0 + z.2.2.2.1.length) with
      | inl e => rw [hd] at h; cases h
      | inr x =>
        rw [hd] at h
        obtain ⟨x1, x2, x3⟩ := hr _ _ _ _ _ ht hd
        exact pSeq_gd hr k (x.1, x.2.1, z.2.2.1 ++ x.2.2.1, z.2.2.2.1 ++ x.2.2.2.1, z.2.2.2.2 ++ x.2.2.2.2) y (by show c ≤ x.1; omega) x2 (hz.app x3 hc (by omega)) h
/-- the row at the beginning, the row at the end -/
theorem gdS.line {c c' td kq i0 : Nat} {td' : Nat} {ks : List Nat} {os : List Row} {r : Row} {ag ag' : List (Nat × Nat)} (hr : r.1 = 1 ∨ r.1 = 2 ∨ r.1 = 22 ∨ r.1 = 23) (h : gdS T c td kq (i0 + 1) (c', td', ks, os, ag)) : gdS T c td kq i0 (c', td', ks, r :: os, ag') := by
  refine ⟨h.1, fun hb lx D => ?_⟩
  obtain ⟨l1, a1, a2⟩ := h.2 hb lx D
  refine ⟨l1, ⟨okW.n hr, ?_⟩, ?_⟩
  · rw [nx_same hr]; exact a1
  · show fdW os (i0 + 1) (nxW r i0 _) = _
    rw [nx_same hr]; exact a2
theorem gdS.last {c c' c'' td kq i0 : Nat} {td' : Nat} {ks : List Nat} {os : List Row} {r : Row} {ag ag' : List (Nat × Nat)} (hr : r.1 = 1 ∨ r.1 = 2 ∨ r.1 = 22 ∨ r.1 = 23) (h : gdS T c td kq i0 (c', td', ks, os, ag)) (hc : c' ≤ c'') : gdS T c td kq i0 (c'', td', ks, os ++ [r], ag') := by
  refine ⟨h.1.mono (Nat.le_refl _) hc, fun hb lx D => ?_⟩
  obtain ⟨l1, a1, a2⟩ := h.2 hb lx D
  have a2' : fdW os i0 ((kq, 0, [], 0), td, lx, false, D) = ((kq + ks.length, 0, [], 0), td', l1, false, D) := a2
  refine ⟨l1, ?_, ?_⟩
  · show sdW (os ++ [r]) i0 _
    rw [sdW_app]
    exact ⟨a1, okW.n hr, trivial⟩
  · show fdW (os ++ [r]) i0 _ = _
    rw [fdW_app, a2']
    exact nx_same hr _ _
/-- an E and an order that takes its value -/
theorem gdS.pop {c c' td kq i0 : Nat} {y : PZ} {r : Row} {ag : List (Nat × Nat)} (hy : gdE T c kq 40 12 112 y) (hr : r.1 = 21 ∨ r.1 = 24 ∨ r.1 = 28 ∨ r.1 = 25) (h28 : r.1 = 28 → ¬ r.2.2.1 = 0) (hc : y.1 ≤ c') : gdS T c td kq i0 (c', td, y.2.2.1, y.2.2.2.1 ++ [r], ag) := by
  refine ⟨hy.1.mono (Nat.le_refl _) hc, fun _ lx D => ?_⟩
  obtain ⟨a1, a2⟩ := hy.W (i := i0) (h := 0) (p := []) (q := 0) (by omega) (Nat.zero_le _) (by omega) (td, lx, false, D)
  refine ⟨lx, ?_, ?_⟩
  · show sdW (y.2.2.2.1 ++ [r]) i0 _
    rw [sdW_app, a2]
    exact ⟨a1, okW.o hr h28 (Nat.le_refl _) (Nat.le_refl _), trivial⟩
  · show fdW (y.2.2.2.1 ++ [r]) i0 _ = _
    rw [fdW_app, a2]
    exact nx_pop hr _ _
theorem pDecl_gd {o c td kq i0 : Nat} {y : PB} (ho : o ≤ 12) (ht : td ≤ 16) (h : pDecl T M o c td kq = .inr y) : y.2.1 ≤ 16 ∧ gdS T c td kq i0 y := by
  unfold pDecl at h
  cases hp : pType T c with
  | inl x => rw [hp] at h; cases h
  | inr c1 =>
    rw [hp] at h
    dsimp only at h
    have l1 := pType_len hp
    by_cases h3 : (T c1).1 = 3
    · rw [if_pos h3] at h
      by_cases t16 : td = 16
      · rw [if_pos t16] at h; cases h
      rw [if_neg t16] at h
      by_cases h61 : (T (c1 + 1)).1 = 61
      · rw [if_pos h61] at h
        cases hv : prV T M o (c1 + 2) (kq + (if (T c).1 = 10 then 0 else 1)) with
        | inl x => rw [hv] at h; cases h
        | inr v =>
          rw [hv] at h
          dsimp only at h
          have gv := prV_gd ho hv
          have lv := (prV_ln hv).1
          by_cases h59 : (T v.1).1 = 59
          · rw [if_pos h59] at h
            cases h
            refine ⟨by show td + 1 ≤ 16; omega, ?_⟩
            have main : ∀ (k1 : List Nat) (a : Int32) (r19 r20 : Row), r19.1 = 19 → r19.2.2.1 = a → r20.1 = 20 → r20.2.2.1 = nI td → (a = -1 ∧ k1 = [] ∧ (if (T c).1 = 10 then 0 else 1) = 0 ∨ (kq < 100000 → ¬ a = -1) ∧ a = nI kq ∧ k1 = [c] ∧ (if (T c).1 = 10 then 0 else 1) = 1 ∧ ∃ c', pKind T c = .inr c' ∧ c < c1) → gdS T c td kq i0 (v.1 + 1, td + 1, k1 ++ v.2.2.1, oLine T c :: r19 :: (v.2.2.2.1 ++ [r20]), v.2.2.2.2) := by
              intro k1 a r19 r20 e19 ea e20 eb hk
              have kr : kdR T c (v.1 + 1) (k1 ++ v.2.2.1) := by
                refine kdR.app ?_ (gv.1.mono (by omega) (by omega))
                rcases hk with ⟨_, e, _⟩ | ⟨_, _, e, _, c', e5, e6⟩
                · rw [e]; exact kdR.nil
                · rw [e]; exact kdR.one e5 (Nat.le_refl _) (by omega)
              refine ⟨kr, fun hb lx D => ⟨lx, ?_, ?_⟩⟩
              all_goals
                have n19 : nxW r19 (i0 + 1) ((kq, 0, [], 0), td, lx, false, D) = ((kq + (if (T c).1 = 10 then 0 else 1), 0, [], 0), td, lx, true, D) := by
                  unfold nxW
                  rw [e19, if_neg (by decide), if_neg (by decide), if_neg (by decide), if_neg (by decide), if_pos rfl, ea]
                  rcases hk with ⟨q1, _, q3⟩ | ⟨q1, _, _, q3, _⟩
                  · rw [if_pos q1, q3]
                    rfl
                  · rw [if_neg (q1 (by omega)), q3]
                obtain ⟨a1, a2⟩ := gv.W (i := i0 + 2) (h := 0) (p := []) (q := 0) (by omega) (Nat.zero_le _) (by omega) (td, lx, true, D)
                have n20 : ∀ j x, nxW r20 j x = ((x.1.1, x.1.2.1 - 1, x.1.2.2.1, x.1.2.2.2 - 1), x.2.1 + 1, x.2.2.1, false, x.2.2.2.2) := by
                  intro j x
                  unfold nxW
                  rw [e20, if_neg (by decide), if_neg (by decide), if_neg (by decide), if_neg (by decide), if_neg (by decide), if_pos rfl]
              · show okW (oLine T c) _ ∧ okW r19 _ ∧ sdW (v.2.2.2.1 ++ [r20]) _ _
                rw [nx_same (r := oLine T c) (Or.inl rfl), n19, sdW_app, a2]
                refine ⟨okW.n (Or.inl rfl), okW.d e19 rfl (by show td < 16; omega) ?_, a1, okW.k e20 rfl (by show td < 16; omega) eb (Nat.le_refl _) (Nat.le_refl _), trivial⟩
                rw [ea]
                rcases hk with ⟨q1, _⟩ | ⟨q1, q2, _⟩
                · exact Or.inl q1
                · exact Or.inr ⟨q1 (by omega), q2⟩
              · show fdW (v.2.2.2.1 ++ [r20]) _ (nxW r19 _ (nxW (oLine T c) i0 _)) = _
                rw [nx_same (r := oLine T c) (Or.inl rfl), n19, fdW_app, a2]
                show nxW r20 _ _ = _
                rw [n20, List.length_append]
                rcases hk with ⟨_, e, q3⟩ | ⟨_, _, e, q3, _⟩
                · rw [e, q3]
                  show ((kq + 0 + v.2.2.1.length, 0, [], 0), td + 1, lx, false, D) = ((kq + (0 + v.2.2.1.length), 0, [], 0), td + 1, lx, false, D)
                  rw [Nat.add_assoc]
                · rw [e, q3]
                  show ((kq + 1 + v.2.2.1.length, 0, [], 0), td + 1, lx, false, D) = ((kq + (1 + v.2.2.1.length), 0, [], 0), td + 1, lx, false, D)
                  rw [Nat.add_assoc]
            by_cases g10 : (T c).1 = 10
            · simp only [if_pos g10]
              exact main [] (-1) _ _ rfl rfl rfl rfl (Or.inl ⟨rfl, rfl, if_pos g10⟩)
            · simp only [if_neg g10]
              have kp : ∃ c', pKind T c = .inr c' := by
                unfold pType at hp
                rw [if_neg g10] at hp
                exact ⟨_, hp⟩
              obtain ⟨c', hc'⟩ := kp
              exact main [c] (nI kq) _ _ rfl rfl rfl rfl (Or.inr ⟨fun hq => nI_m1 (by omega), rfl, rfl, if_neg g10, c', hc', by omega⟩)
          · rw [if_neg h59] at h; cases h
      · rw [if_neg h61] at h; cases h
    · rw [if_neg h3] at h; cases h
theorem gdS.up {c c' td kq i0 : Nat} {y : PB} (h : gdS T c td kq i0 y) (hc : c' ≤ c) : gdS T c' td kq i0 y := ⟨h.1.mono hc (Nat.le_refl _), h.2⟩
theorem pGrd_gd {bl : Nat → Nat → Nat → Nat → PY} {o c td kq i0 : Nat} {x : PZ × PB} (ho : o ≤ 12) (ht : td ≤ 16) (hr : ∀ c td kq i0 x, td ≤ 16 → bl c td kq i0 = .inr x → c < x.1 ∧ x.2.1 ≤ 16 ∧ gdS T c td kq i0 x) (h : pGrd T M bl o c td kq i0 = .inr x) : c < x.2.1 ∧ x.2.2.1 ≤ 16 ∧ ∀ r : Row, r.1 = 21 → gdS T c td kq i0 (x.2.1, x.2.2.1, x.1.2.2.1 ++ x.2.2.2.1, x.1.2.2.2.1 ++ r :: x.2.2.2.2.1, x.1.2.2.2.2 ++ x.2.2.2.2.2) := by
  unfold pGrd at h
  by_cases a : (T (c + 1)).1 = 40
  · rw [if_pos a] at h
    by_cases b : o = 12
    · rw [if_pos b] at h; cases h
    rw [if_neg b] at h
    cases hv : prV T M (o + 1) (c + 2) kq with
    | inl e => rw [hv] at h; cases h
    | inr v =>
      rw [hv] at h
      dsimp only at h
      have gv := prV_gd (by omega) hv
      have lv := (prV_ln hv).1
      by_cases g : (T v.1).1 = 41
      · rw [if_pos g] at h
        cases hb : bl (v.1 + 1) td (kq + v.2.2.1.length) (i0 + v.2.2.2.1.length + 1) with
        | inl e => rw [hb] at h; cases h
        | inr w =>
          rw [hb] at h
          obtain ⟨w1, w2, w3⟩ := hr _ _ _ _ _ ht hb
          cases h
          refine ⟨by show c < w.1; omega, w2, fun r hr21 => ?_⟩
          have p := (gdS.pop (td := td) (i0 := i0) (c' := v.1 + 1) (ag := v.2.2.2.2) gv (Or.inl hr21) (fun x => absurd (hr21.symm.trans x) (by decide)) (by omega)).up (show c ≤ c + 2 by omega)
          have q := gdQ.app (e := 0) p (y := w) (ag := v.2.2.2.2 ++ w.2.2.2.2) (by
            show gdS T (v.1 + 1) td (kq + v.2.2.1.length) (i0 + (v.2.2.2.1 ++ [r]).length) w
            rw [List.length_append, List.length_singleton, ← Nat.add_assoc]
            exact w3) (by show c ≤ v.1 + 1; omega) (by show v.1 + 1 ≤ w.1; omega)
          have e : v.2.2.2.1 ++ r :: w.2.2.2.1 = v.2.2.2.1 ++ [r] ++ w.2.2.2.1 := by rw [List.append_assoc]; rfl
          show gdS T c td kq i0 (w.1, w.2.1, v.2.2.1 ++ w.2.2.1, v.2.2.2.1 ++ r :: w.2.2.2.1, v.2.2.2.2 ++ w.2.2.2.2)
          rw [e]
          exact q
      · rw [if_neg g] at h; cases h
  · rw [if_neg a] at h; cases h
theorem pIf_gd {bl : Nat → Nat → Nat → Nat → PY} {o c td kq i0 : Nat} {y : PB} (ho : o ≤ 12) (ht : td ≤ 16) (hr : ∀ c td kq i0 x, td ≤ 16 → bl c td kq i0 = .inr x → c < x.1 ∧ x.2.1 ≤ 16 ∧ gdS T c td kq i0 x) (h : pIf T M bl o c td kq i0 = .inr y) : y.2.1 ≤ 16 ∧ gdS T c td kq i0 y := by
  unfold pIf at h
  cases hg : pGrd T M bl o c td kq (i0 + 1) with
  | inl e => rw [hg] at h; cases h
  | inr x =>
    rw [hg] at h
    obtain ⟨g1, g2, g3⟩ := pGrd_gd ho ht hr hg
    obtain ⟨v, w⟩ := x
    dsimp only at h g1 g2 g3
    by_cases e16 : (T w.1).1 = 16
    · rw [if_pos e16] at h
      cases hb : bl (w.1 + 1) w.2.1 (kq + v.2.2.1.length + w.2.2.1.length) (i0 + 3 + v.2.2.2.1.length + w.2.2.2.1.length) with
      | inl e => rw [hb] at h; cases h
      | inr u =>
        rw [hb] at h
        obtain ⟨u1, u2, u3⟩ := hr _ _ _ _ _ g2 hb
        cases h
        refine ⟨u2, ?_⟩
        have p := gdS.last (c'' := w.1 + 1) (r := (22, -1, nI (i0 + 3 + v.2.2.2.1.length + w.2.2.2.1.length + u.2.2.2.1.length), 0, 0)) (ag' := []) (Or.inr (Or.inr (Or.inl rfl))) (g3 (21, (T c).2.1, nI (i0 + 3 + v.2.2.2.1.length + w.2.2.2.1.length), 0, 0) rfl) (by omega)
        have q := gdQ.app (e := 0) p (y := u) (ag := []) (by
          refine (show ∀ a b, a = kq + v.2.2.1.length + w.2.2.1.length → b = i0 + 3 + v.2.2.2.1.length + w.2.2.2.1.length → gdS T (w.1 + 1) w.2.1 a b u from fun a b ea eb => ?_) _ _ ?_ ?_
          · rw [ea, eb]; exact u3
          · show kq + (v.2.2.1 ++ w.2.2.1).length = _
            rw [List.length_append, Nat.add_assoc]
          · simp only [List.length_append, List.length_cons, List.length_nil]
            omega) (by show c ≤ w.1 + 1; omega) (by show w.1 + 1 ≤ u.1; omega)
        refine gdS.line (Or.inl rfl) (ag := []) ?_
        simp only [List.append_assoc, List.cons_append, List.nil_append] at q ⊢
        exact q
    · rw [if_neg e16] at h
      cases h
      exact ⟨g2, gdS.line (Or.inl rfl) (g3 _ rfl)⟩
theorem pWhile_gd {bl : Nat → Nat → Nat → Nat → PY} {o c td kq i0 : Nat} {y : PB} (ho : o ≤ 12) (ht : td ≤ 16) (hr : ∀ c td kq i0 x, td ≤ 16 → bl c td kq i0 = .inr x → c < x.1 ∧ x.2.1 ≤ 16 ∧ gdS T c td kq i0 x) (h : pWhile T M bl o c td kq i0 = .inr y) : y.2.1 ≤ 16 ∧ gdS T c td kq i0 y := by
  unfold pWhile at h
  cases hg : pGrd T M bl o c td kq (i0 + 2) with
  | inl e => rw [hg] at h; cases h
  | inr x =>
    rw [hg] at h
    obtain ⟨g1, g2, g3⟩ := pGrd_gd ho ht hr hg
    obtain ⟨v, w⟩ := x
    dsimp only at g1 g2 g3
    cases h
    refine ⟨g2, ?_⟩
    have p := gdS.last (c'' := w.1) (r := (23, -1, nI (i0 + 1), 0, 0)) (ag' := []) (Or.inr (Or.inr (Or.inr rfl))) (g3 (21, (T c).2.1, nI (i0 + 4 + v.2.2.2.1.length + w.2.2.2.1.length), 0, 0) rfl) (Nat.le_refl _)
    refine gdS.line (Or.inl rfl) (ag := []) (gdS.line (i0 := i0 + 1) (Or.inr (Or.inl rfl)) (ag := []) ?_)
    simp only [List.append_assoc, List.cons_append, List.nil_append] at p ⊢
    exact p
theorem pGive_gd {o c td kq i0 : Nat} {w : Int32} {y : PB} (ho : o ≤ 12) (ht : td ≤ 16) (hw : w = 28 ∨ w = 24) (h : pGive T M o c td kq w = .inr y) : y.2.1 ≤ 16 ∧ gdS T c td kq i0 y := by
  unfold pGive at h
  cases hv : prV T M o (c + 1) kq with
  | inl e => rw [hv] at h; cases h
  | inr v =>
    rw [hv] at h
    dsimp only at h
    have gv := prV_gd ho hv
    by_cases g : (T v.1).1 = 59
    · rw [if_pos g] at h
      cases h
      exact ⟨ht, gdS.line (Or.inl rfl) (ag := []) ((gdS.pop gv (hw.elim (fun e => Or.inr (Or.inr (Or.inl e))) (fun e => Or.inr (Or.inl e))) (fun _ => (by decide : ¬ (1 : Int32) = 0)) (by omega)).up (show c ≤ c + 1 by omega))⟩
    · rw [if_neg g] at h; cases h
end MJA91
end
section
/-! ===== LEFT = E ;, and every STATEMENT's orders ===== -/
section MJA92
variable {T : TT} {M : Nat}
/-- the orders ahead of =, its last one turned: what it leaves -/
theorem left_gd {c kq i td lx D : Nat} {v : PZ} (gv : gdE T c kq 40 12 112 v) (h1 : v.2.1 = 1 → v.2.2.1 = [] ∧ ∃ r : Row, v.2.2.2.1 = [r]) (h2 : sh2 v) (hs : v.2.1 = 1 ∨ v.2.1 = 2) : (oLeft v.2.1 v.2.2.2.1).length = v.2.2.2.1.length ∧ 1 ≤ v.2.2.2.1.length ∧ sdW (oLeft v.2.1 v.2.2.2.1) i ((kq, 0, [], 0), td, lx, false, D) ∧ fdW (oLeft v.2.1 v.2.2.2.1) i ((kq, 0, [], 0), td, lx, false, D) = ((kq + v.2.2.1.length, 1, [], if v.2.1 = 1 then 0 else 1), td, i + v.2.2.2.1.length - 1, false, D) := by
  rcases hs with s1 | s2
  · obtain ⟨ek, r, er⟩ := h1 s1
    rw [s1, er, ek, if_pos rfl]
    have e : oLeft 1 [r] = [(15, r.2)] := rfl
    rw [e]
    refine ⟨rfl, Nat.le_refl _, ⟨okW.l rfl (by show 0 ≤ 50; omega), trivial⟩, ?_⟩
    show ((kq, 0 + 1, [], 0), td, i, false, D) = ((kq + 0, 1, [], 0), td, i + 1 - 1, false, D)
    rw [Nat.add_sub_cancel]
    rfl
  · obtain ⟨b, r, er, e10⟩ := h2 s2
    have n1 : ¬ v.2.1 = 1 := by rw [s2]; decide
    have hx : ∀ x, hxE r x = x := by
      intro x
      unfold hxE
      rw [e10, if_neg (by decide), if_neg (by decide), if_neg (by decide), if_neg (by decide), if_neg (by decide), if_neg (by decide), if_neg (by decide)]
    obtain ⟨a, f⟩ := gv.2 0 [] 0 60 20 120 (by omega) (by show 0 + 12 ≤ 20; omega) (by omega)
    rw [er, scE_app] at a
    rw [er, fdE_app] at f
    have f' : fdE b (kq, 0, [], 0) = (kq + v.2.2.1.length, 0 + 1, [], 0 + 1) := by
      have := f
      change hxE r (fdE b (kq, 0, [], 0)) = _ at this
      rw [hx] at this
      exact this
    obtain ⟨a2, f2⟩ := sc_EW b i (kq, 0, [], 0) (td, lx, false, D) a.1
    have e : oLeft v.2.1 (b ++ [r]) = b ++ [(16, r.2)] := by
      unfold oLeft oLast
      rw [if_neg n1, List.dropLast_concat, List.getLastD_concat]
    rw [if_neg n1, er, e]
    refine ⟨by rw [List.length_append, List.length_append]; rfl, by rw [List.length_append]; show 1 ≤ b.length + 1; omega, ?_, ?_⟩
    · rw [sdW_app]
      rw [f2, f']
      exact ⟨a2, okW.f rfl (Nat.le_refl _) (Nat.le_refl _), trivial⟩
    · rw [fdW_app, f2, f']
      show nxW (16, r.2) (i + b.length) _ = _
      have n16 : ∀ j x, nxW (16, r.2) j x = (x.1, x.2.1, j, x.2.2.2) := fun j x => rfl
      rw [n16, List.length_append]
      show ((kq + v.2.2.1.length, 0 + 1, [], 0 + 1), td, i + b.length, false, D) = ((kq + v.2.2.1.length, 1, [], 1), td, i + (b.length + 1) - 1, false, D)
      rw [show i + (b.length + 1) - 1 = i + b.length by omega]
theorem pUse_gd {o c td kq i0 : Nat} {y : PB} (ho : o ≤ 12) (ht : td ≤ 16) (h : pUse T M o c td kq i0 = .inr y) : y.2.1 ≤ 16 ∧ gdS T c td kq i0 y := by
  unfold pUse at h
  cases hv : prV T M o c kq with
  | inl e => rw [hv] at h; cases h
  | inr v =>
    rw [hv] at h
    dsimp only at h
    have gv := prV_gd ho hv
    have lv := (prV_ln hv).1
    by_cases g : (T v.1).1 = 61 ∧ (v.2.1 = 1 ∨ v.2.1 = 2)
    · rw [if_pos g] at h
      cases hv2 : prV T M o (v.1 + 1) (kq + v.2.2.1.length) with
      | inl e => rw [hv2] at h; cases h
      | inr w =>
        rw [hv2] at h
        dsimp only at h
        have gw := prV_gd ho hv2
        have lw := (prV_ln hv2).1
        by_cases g2 : (T w.1).1 = 59
        · rw [if_pos g2] at h
          have s1 : v.2.1 = 1 → v.2.2.1 = [] ∧ ∃ r : Row, v.2.2.2.1 = [r] := fun e => by
            obtain ⟨_, ey⟩ := prE_s1 100 0 o c kq v (by omega) hv e
            rw [ey]
            exact ⟨rfl, _, rfl⟩
          have s2 := prE_s2 100 0 o c kq v (by omega) hv
          cases h
          refine ⟨ht, gdS.line (Or.inl rfl) (ag := []) ⟨?_, fun hb lx D => ?_⟩⟩
          · exact (gv.1.mono (Nat.le_refl _) (by show v.1 ≤ w.1 + 1; omega)).app (gw.1.mono (by omega) (by show w.1 ≤ w.1 + 1; omega))
          · obtain ⟨l1, l2, l3, l4⟩ := left_gd (i := i0 + 1) (td := td) (lx := lx) (D := D) gv s1 s2 g.2
            have q2 : (if v.2.1 = 1 then 0 else 1) ≤ 2 := by by_cases q : v.2.1 = 1 <;> simp only [q, if_true, if_false] <;> omega
            obtain ⟨w1, w2⟩ := gw.W (i := i0 + 1 + v.2.2.2.1.length) (h := 1) (p := []) (q := if v.2.1 = 1 then 0 else 1) (by omega) (Nat.zero_le _) q2 (td, i0 + 1 + v.2.2.2.1.length - 1, false, D)
            have e1 : i0 + 1 + v.2.2.2.1.length - 1 = i0 + v.2.2.2.1.length := by omega
            refine ⟨i0 + v.2.2.2.1.length, ?_, ?_⟩
            · show sdW (oLeft v.2.1 v.2.2.2.1 ++ w.2.2.2.1 ++ [_]) (i0 + 1) _
              rw [sdW_app, sdW_app, fdW_app, l4, l1, w2]
              refine ⟨⟨l3, w1⟩, okW.p ?_ (Nat.le_refl _) ?_, trivial⟩
              · by_cases q : v.2.1 = 1
                · exact Or.inl ⟨if_pos q, by rw [if_pos q]; exact Nat.le_refl _⟩
                · exact Or.inr ⟨if_neg q, by rw [if_neg q]; exact Nat.le_refl _⟩
              · show nI (i0 + v.2.2.2.1.length) = nI (i0 + 1 + v.2.2.2.1.length - 1)
                rw [e1]
            · show fdW (oLeft v.2.1 v.2.2.2.1 ++ w.2.2.2.1 ++ [_]) (i0 + 1) _ = _
              rw [fdW_app, fdW_app, l4, l1, w2]
              show nxW _ _ _ = _
              by_cases q : v.2.1 = 1
              · simp only [if_pos q]
                show ((kq + v.2.2.1.length + w.2.2.1.length, 1 + 1 - 2, [], 0 + 1 - 1), td, i0 + 1 + v.2.2.2.1.length - 1, false, D) = ((kq + (v.2.2.1 ++ w.2.2.1).length, 0, [], 0), td, i0 + v.2.2.2.1.length, false, D)
                rw [e1, List.length_append, Nat.add_assoc kq]
              · simp only [if_neg q]
                show ((kq + v.2.2.1.length + w.2.2.1.length, 1 + 1 - 2, [], 1 + 1 - 2), td, i0 + 1 + v.2.2.2.1.length - 1, false, D) = ((kq + (v.2.2.1 ++ w.2.2.1).length, 0, [], 0), td, i0 + v.2.2.2.1.length, false, D)
                rw [e1, List.length_append, Nat.add_assoc kq]
        · rw [if_neg g2] at h; cases h
    · rw [if_neg g] at h
      by_cases g2 : (T v.1).1 = 59 ∧ v.2.1 = 3
      · rw [if_pos g2] at h
        cases h
        exact ⟨ht, gdS.line (Or.inl rfl) (ag := []) (gdS.pop gv (Or.inr (Or.inr (Or.inr rfl))) (fun x => absurd (show (25 : Int32) = 28 from x) (by decide)) (by omega))⟩
      · rw [if_neg g2] at h; cases h
/-- EVERY STATEMENT -/
theorem prS_gd : ∀ (f tag o c td kq i0 : Nat) (y : PB), tag ≤ 1 → o ≤ 12 → td ≤ 16 → prS T M f tag o c td kq i0 = .inr y → y.2.1 ≤ 16 ∧ gdS T c td kq i0 y
  | 0, _, _, _, _, _, _, _, _, _, _, h => by cases h
  | f + 1, 0, o, c, td, kq, i0, y, _, ho, ht, h => by
    rw [prS_0] at h
    unfold pBlk at h
    by_cases a : (T c).1 = 123
    · rw [if_pos a] at h
      by_cases b : o = 12
      · rw [if_pos b] at h; cases h
      rw [if_neg b] at h
      cases hd : pSeq T (prS T M f 1 (o + 1)) kq i0 M (c + 1, td, [], [(26, (T (c + 1)).2.1, 0, 0, 0)], []) with
      | inl e => rw [hd] at h; cases h
      | inr z =>
        rw [hd] at h
        dsimp only at h
        have g0 : gdQ T 1 c td kq i0 (c + 1, td, [], [(26, (T (c + 1)).2.1, 0, 0, 0)], []) := ⟨kdR.nil, fun _ lx D => ⟨lx, ⟨okW.b rfl rfl, trivial⟩, rfl⟩⟩
        obtain ⟨a1, a2, a3⟩ := pSeq_gd (c := c) (fun c td kq i0 x ht hx => ⟨(prS_ln f 1 (o + 1) c td kq i0 x (by omega) hx).1, prS_gd f 1 (o + 1) c td kq i0 x (by omega) (by omega) ht hx⟩) _ _ _ (by show c ≤ c + 1; omega) ht g0 hd
        by_cases g : (T z.1).1 = 125
        · rw [if_pos g] at h
          cases h
          refine ⟨a2, a3.1.mono (Nat.le_refl _) (by show z.1 ≤ z.1 + 1; omega), fun hb lx D => ?_⟩
          obtain ⟨l1, b1, b2⟩ := a3.2 hb lx D
          refine ⟨l1, ?_, ?_⟩
          · show sdW (z.2.2.2.1 ++ [_]) i0 _
            rw [sdW_app, b2]
            exact ⟨b1, okW.c rfl rfl (by show 1 ≤ D + 1; omega), trivial⟩
          · show fdW (z.2.2.2.1 ++ [_]) i0 _ = _
            rw [fdW_app, b2]
            rfl
        · rw [if_neg g] at h; cases h
    · rw [if_neg a] at h; cases h
  | f + 1, 1, o, c, td, kq, i0, y, _, ho, ht, h => by
    rw [prS_1] at h
    have bl : ∀ c td kq i0 x, td ≤ 16 → prS T M f 0 o c td kq i0 = .inr x → c < x.1 ∧ x.2.1 ≤ 16 ∧ gdS T c td kq i0 x := fun c td kq i0 x ht hx => ⟨(prS_ln f 0 o c td kq i0 x (by omega) hx).1, prS_gd f 0 o c td kq i0 x (by omega) ho ht hx⟩
    by_cases e1 : (T c).1 = 2 ∨ (T c).1 = 10
    · rw [if_pos e1] at h; exact pDecl_gd ho ht h
    rw [if_neg e1] at h
    by_cases e15 : (T c).1 = 15
    · rw [if_pos e15] at h; exact pIf_gd ho ht bl h
    rw [if_neg e15] at h
    by_cases e17 : (T c).1 = 17
    · rw [if_pos e17] at h; exact pWhile_gd ho ht bl h
    rw [if_neg e17] at h
    by_cases e18 : (T c).1 = 18
    · rw [if_pos e18] at h; exact pGive_gd ho ht (Or.inl rfl) h
    rw [if_neg e18] at h
    by_cases e19 : (T c).1 = 19
    · rw [if_pos e19] at h; exact pGive_gd ho ht (Or.inr rfl) h
    rw [if_neg e19] at h
    by_cases e123 : (T c).1 = 123
    · rw [if_pos e123] at h
      exact prS_gd f 0 o c td kq i0 y (by omega) ho ht h
    rw [if_neg e123] at h
    exact pUse_gd ho ht h
  | f + 1, t + 2, o, c, td, kq, i0, y, ht, _, _, h => by omega
end MJA92
end
section
/-! ===== the reference's judge of BLOCKS: TYPES that wait; fits ===== -/
def tyC (b t : Nat) : Int32 := match t with
  | 0 => -1
  | 1 => -2
  | k + 2 => nI (16 * b + cK k)
/-- the OWNERS of TYPE t at place p -/
def TO1 (L : List CD) (s : mjSt3) (p t : Nat) : Prop := match t with
  | k + 2 => vK L k ∧ ∀ i, i < nmL L (cK k) → s.1 157 (5 * p + i) = oR (oK k i)
  | _ => True
def TY1 (L : List CD) (b : Nat) (s : mjSt3) (p t : Nat) (al : Bool) : Prop := s.1 155 p = tyC b t ∧ s.1 156 p = b2 al ∧ TO1 L s p t
/-- up holds OWNERS of KIND v, whatever CLASS is noted -/
def UPo (L : List CD) (s : mjSt3) (v : Nat) : Prop := ∀ i, i < nmL L (cK v) → s.1 165 i = oR (oK v i)
section MJA93
variable {T : TT} {d N b k t c n m v u w p : Nat} {ks : List Nat} {L : List CD} {s s' : mjSt3}
theorem i5s (n i : Nat) : (5 : Int32) * nI (n + 1) - 5 + nI i = nI (5 * n + i) := by
  rw [show (5 : Int32) = nI 5 from rfl, nI_mul, show 5 * (n + 1) = 5 * n + 5 by omega, ← nI_add, Int32.add_sub_cancel, nI_add]
/-- rows of what was read that the judge of BLOCKS leaves alone -/
theorem RJ.off2 (J : RJ T N b ks L s) (h63 : s'.1 97 63 = s.1 97 63) (hi : ∀ h, (100 ≤ h ∧ h ≤ 108) ∨ h = 112 ∨ h = 115 ∨ h = 116 ∨ (120 ≤ h ∧ h ≤ 129) ∨ h = 131 ∨ h = 133 ∨ h = 134 ∨ h = 137 ∨ h = 138 ∨ h = 141 → s'.1 h = s.1 h) (hl : ∀ h, ¬ h = 158 → s'.2.1 h = s.2.1 h) : RJ T N b ks L s' := by
  obtain ⟨⟨a1, a2⟩, ⟨b1, b2, b3⟩, c1, d1⟩ := J
  refine ⟨⟨a1, by rw [h63]; exact a2⟩, ⟨by rw [hi 100 (by omega)]; exact b1, by rw [hi 120 (by omega)]; exact b2, fun c E hc => ?_⟩, fun i t ht => ?_, d1⟩
  · obtain ⟨⟨x1, x2, x3, x4, x5, x6, x7, x8⟩, y, z⟩ := b3 c E hc
    refine ⟨⟨by rw [hl 101 (by decide)]; exact x1, by rw [hi 102 (by omega)]; exact x2, ?_, fun e => ?_, fun e => ?_, ?_, by rw [hi 107 (by omega)]; exact x7, x8⟩, by rw [hi 108 (by omega)]; exact y, fun j md hj => ?_⟩
    · unfold RN; rw [hi 104 (by omega), hi 112 (by omega), hl 111 (by decide)]; exact x3
    · rw [hi 103 (by omega), hi 105 (by omega)]; exact x4 e
    · rw [hi 103 (by omega), hi 105 (by omega)]; exact x5 e
    · unfold RI; rw [hi 106 (by omega), hi 115 (by omega), hi 116 (by omega), hl 113 (by decide), hl 114 (by decide)]; exact x6
    · have w := z j md hj
      unfold RM RM0 RP at w ⊢
      rw [hi 124 (by omega), hi 125 (by omega), hi 126 (by omega), hi 127 (by omega), hi 128 (by omega), hi 129 (by omega), hi 131 (by omega), hi 133 (by omega), hi 134 (by omega), hl 132 (by decide), hl 135 (by decide)]
      exact w
  · have w := c1 i t ht
    unfold Kd at w ⊢
    rw [hi 137 (by omega), hi 138 (by omega), hi 141 (by omega), hl 136 (by decide), hl 140 (by decide)]
    exact w
theorem vK_ext (hn : HN T N L) (hk : vK L k) (hw : vK L w) : k = w ↔ cK k = cK w ∧ ∀ i, i < nmL L (cK k) → oK k i = oK w i := by
  constructor
  · intro e; rw [e]; exact ⟨rfl, fun _ _ => rfl⟩
  · intro ⟨e1, e2⟩
    rw [vK.eq hn hk, vK.eq hn hw, e1]
    exact mkK_cg (fun i hi => e2 i (by rw [e1]; exact hi))
theorem stand_as (hn : HN T N L) (hu : vK L u) (hv : vK L v) (hm : ∀ i, i < nmL L (cK u) → oK u i < 5 → oK u i < nmL L (cK v)) : stand (nmL L) u (stand (nmL L) v k) = stand (nmL L) (stand (nmL L) u v) k := by
  have ec : cK (stand (nmL L) u v) = cK u := stand_c hn hu
  show mkK (cK u) (nmL L (cK u)) _ = mkK (cK (stand (nmL L) u v)) (nmL L (cK (stand (nmL L) u v))) _
  rw [ec]
  refine mkK_cg (fun i hi => ?_)
  rw [stand_o hn hu hi]
  by_cases g : oK u i < 5
  · rw [if_pos g, if_pos g, stand_o hn hv (hm i hi g)]
  · rw [if_neg g, if_neg g, if_neg g]
theorem stand_own (hn : HN T N L) (hk : vK L k) : stand (nmL L) (own (nmL L) (cK k)) k = k := by
  have hc := hk.cl hn
  have n5 := (vK.n5 hn hc).2
  have f8 : ∀ i, i < nmL L (cK k) → i < 8 := fun i hi => by omega
  have ec : cK (own (nmL L) (cK k)) = cK k := mkK_c n5 f8
  show mkK (cK (own (nmL L) (cK k))) (nmL L (cK (own (nmL L) (cK k)))) _ = k
  rw [ec]
  conv => rhs; rw [vK.eq hn hk]
  refine mkK_cg (fun i hi => ?_)
  have eo : oK (own (nmL L) (cK k)) i = i := mkK_o n5 f8 hi
  rw [eo, if_pos (by omega)]
/-- a KIND seen as the CLASSES above it -/
theorem chV_st (hn : HN T N L) (hk : vK L k) : ∀ j, chV T L k j = (chn (nmL L) (abT T L) (cK k) j).map (fun v => stand (nmL L) v k)
  | 0 => by
    show some k = some (stand (nmL L) (own (nmL L) (cK k)) k)
    rw [stand_own hn hk]
  | j + 1 => by
    show (match chV T L k j with
      | none => none
      | some w => match abT T L (cK w) with
        | none => none
        | some u => some (stand (nmL L) u w)) = _
    rw [chV_st hn hk j]
    show _ = Option.map _ (match chn (nmL L) (abT T L) (cK k) j with
      | none => none
      | some v => match abT T L (cK v) with
        | none => none
        | some u => some (stand (nmL L) u v))
    cases h : chn (nmL L) (abT T L) (cK k) j with
    | none => rfl
    | some v =>
      have hv := chn_v hn (hk.cl hn) j v h
      show (match abT T L (cK (stand (nmL L) v k)) with
        | none => none
        | some u => some (stand (nmL L) u (stand (nmL L) v k))) = Option.map _ (match abT T L (cK v) with
        | none => none
        | some u => some (stand (nmL L) u v))
      rw [stand_c hn hv]
      cases ha : abT T L (cK v) with
      | none => rfl
      | some u =>
        have hu := ab_v hn (hv.cl hn) ha
        show some _ = some _
        rw [stand_as hn hu hv (fun i hi h5 => ab_nm hn ha hi h5)]
theorem L329_S (R : mjR) (n a : Nat) (b e : Int32) (hp : mjH) : L_329_12 R (n + 1) a b e hp = b_329_12 R (L_329_12 R n) a b e hp := rfl
theorem lq_329 (R : mjR) (hp : p < 200) : ∀ (r i m : Nat) (s : mjSt3), i + r = 5 → r < m → (∀ x, x < i → s.1 165 x = s.1 157 (5 * p + x)) → ∃ s', L_329_12 R m 97 (nI p) (nI i) (mjW0 s) = some (none, mjW0 s') ∧ oUp s s' ∧ s'.1 97 = s.1 97 ∧ ∀ x, x < 5 → s'.1 165 x = s.1 157 (5 * p + x)
  | r, i, 0, s, e, hr, w => by omega
  | 0, i, m + 1, s, e, hr, w => by
    refine ⟨s, ?_, offG.rf, rfl, fun x hx => w x (by omega)⟩
    rw [L329_S]
    unfold b_329_12
    rw [if_pos (show (5 : Int32) ≤ nI i from nI_le (a := 5) (by omega) (by omega))]
  | r + 1, i, m + 1, s, e, hr, w => by
    obtain ⟨z, hz⟩ : ∃ z, z = uI s 165 (upd (s.1 165) i (s.1 157 (5 * p + i))) := ⟨_, rfl⟩
    have z7 : z.1 157 = s.1 157 := by rw [hz]; exact uI_ne _ _ _ _ (by decide)
    obtain ⟨s', b1, b2', b3, b4⟩ := lq_329 R hp r (i + 1) m z (by omega) (by omega) (fun x hx => by
      rw [z7, hz, uI_same, upd_g]
      by_cases e' : x = i
      · rw [if_pos e', e']
      · rw [if_neg e']; exact w x (by omega))
    refine ⟨s', ?_, (show oUp s z by rw [hz]; exact offG.w (Or.inr (Or.inl rfl))).tr b2', by rw [b3, hz]; exact uI_ne _ _ _ _ (by decide), fun x hx => by rw [b4 x hx, z7]⟩
    rw [← b1, L329_S]
    unfold b_329_12
    rw [if_neg (show ¬ (5 : Int32) ≤ nI i from nI_ge (b := 5) (by omega) (by decide)), xg_97_93, xg_97_81, i5m, wa_157 (by omega), ws_165 (by omega), ← hz, nI_1]
/-- load -/
theorem x_329 (hn : HN T N L) (hp : p < 200) {al : Bool} (Y : TY1 L b s p (k + 2) al) : ∃ s', mjF (d + 1) 329 [.ref 97, .int (nI p)] (mjW0 s) = some (none, mjW0 s') ∧ oUp s s' ∧ UPv L b s' k := by
  obtain ⟨z, hz⟩ : ∃ z, z = uI s 97 (upd (s.1 97) 95 (nI (16 * b + cK k))) := ⟨_, rfl⟩
  have z7 : ∀ h, ¬ h = 97 → z.1 h = s.1 h := fun h e => by rw [hz]; exact uI_ne _ _ _ _ e
  obtain ⟨s', b1, b2', b3, b4⟩ := lq_329 (mjF d) hp 5 0 mjN z (by omega) (by have := mjN_v; omega) (fun x hx => by omega)
  have n5 := (vK.n5 hn (Y.2.2.1.cl hn)).2
  refine ⟨s', ?_, (show oUp s z by rw [hz]; exact offG.w (Or.inl ⟨rfl, rfl⟩)).tr b2', ?_, fun i hi => ?_⟩
  · rw [← b1, e_329]
    unfold f_329 b_329_0
    rw [xg_97_79, wa_155 hp, Y.1, show tyC b (k + 2) = nI (16 * b + cK k) from rfl, xp_97_95, ← hz]
    rfl
  · rw [b3, hz, uI_same, upd_g, if_pos rfl]
  · rw [b4 i (by omega), z7 157 (by decide)]
    exact Y.2.2.2 i hi
theorem L334a_S (R : mjR) (n a : Nat) (b : Int32) (hp : mjH) : L_334_85 R (n + 1) a b hp = b_334_85 R (L_334_85 R n) a b hp := rfl
theorem L334b_S (R : mjR) (n a : Nat) (b e f : Int32) (hp : mjH) : L_334_139 R (n + 1) a b e f hp = b_334_139 R (L_334_139 R n) a b e f hp := rfl
/-- fits: up to the CLASS that is asked for -/
theorem lq_334w (Ac : ACY T N L) (hp : p < 200) (hw : w < 16) : ∀ (r n : Nat) (s : mjSt3) (v : Nat), upI (upT T L) (r + 1) (cK v) = none → r + 1 < n → RJ T N b ks L s → (∀ x, x < L.length → ABr T L b s x) → vK L v → UPv L b s v → s.1 155 p = nI (16 * b + w) → ∃ s' v' j, L_334_85 (mjF (d + 2)) n 97 (nI p) (mjW0 s) = b_334_117 (mjF (d + 2)) 97 (nI p) (mjW0 s') ∧ oUp s s' ∧ UPv L b s' v' ∧ vK L v' ∧ chV T L v j = some v' ∧ (∀ i, i < j → ∀ x, chV T L v i = some x → ¬ cK x = w) ∧ (¬ cK v' = w → abT T L (cK v') = none)
  | r, 0, s, v, hu, hr, J, A, hv, U, hy => by omega
  | r, n + 1, s, v, hu, hr, J, A, hv, U, hy => by
    have hn := Ac.1
    have hb := J.b1
    have h16 := J.len
    have ha := hv.cl hn
    have pre : L_334_85 (mjF (d + 2)) (n + 1) 97 (nI p) (mjW0 s) = b_334_85 (mjF (d + 2)) (L_334_85 (mjF (d + 2)) n) 97 (nI p) (mjW0 s) := L334a_S _ _ _ _ _
    unfold b_334_85 at pre
    rw [xg_97_95, U.1, xg_97_79, wa_155 hp, hy] at pre
    by_cases q : cK v = w
    · rw [if_pos (by rw [q])] at pre
      exact ⟨s, v, 0, pre, offG.rf, U, hv, rfl, fun i hi => by omega, fun x => absurd q x⟩
    · rw [if_neg (fun x => q (by have := (nI_eq (by omega) (by omega)).mp x; omega)), xg_97_95, U.1, xV_97, x_242 hb h16 hn ha (A _ ha), bI_s] at pre
      cases hab : abT T L (cK v) with
      | none =>
        have up0 : upT T L (cK v) = none := by unfold upT; rw [hab]; rfl
        rw [up0, if_pos (show cR b none = -1 from rfl)] at pre
        exact ⟨s, v, 0, pre, offG.rf, U, hv, rfl, fun i hi => by omega, fun _ => hab⟩
      | some u =>
        have up1 : upT T L (cK v) = some (cK u) := by unfold upT; rw [hab]; rfl
        have ul : cK u < L.length := up_lt hn ha up1
        obtain ⟨s1, a1, a2, a3, a4⟩ := x_317 (d := d) hb h16 hn hv U (A _ ha) hab
        rw [up1, if_neg (show ¬ cR b (some (cK u)) = -1 from nI_m1 (by omega)), xV_97, a1, bN_s] at pre
        have vu := ab_v hn ha hab
        cases r with
        | zero =>
          have : upT T L (cK v) = none := by
            have e : upI (upT T L) 1 (cK v) = upT T L (cK v) := by
              unfold upI
              cases upT T L (cK v) <;> rfl
            rw [← e]; exact hu
          rw [up1] at this
          cases this
        | succ r =>
          have hu' : upI (upT T L) (r + 1) (cK (stand (nmL L) u v)) = none := by
            rw [stand_c hn vu]
            have e : upI (upT T L) (r + 1 + 1) (cK v) = upI (upT T L) (r + 1) (cK u) := by
              rw [show r + 1 + 1 = 1 + (r + 1) by omega, upI_add]
              have e1 : upI (upT T L) 1 (cK v) = some (cK u) := by
                unfold upI
                rw [up1]
                rfl
              rw [e1]
            rw [← e]; exact hu
          obtain ⟨s', v', j, b1, b2', b3, b4, b5, b6, b7⟩ := lq_334w Ac hp hw r n s1 (stand (nmL L) u v) hu' (by omega) (oUp.J a2 J) (fun x hx => a2.A (A x hx)) a4 a3 (by rw [a2.r (by decide) (by decide) (by decide)]; exact hy)
          refine ⟨s', v', j + 1, pre.trans b1, a2.tr b2', b3, b4, ?_, fun i hi x hx => ?_, b7⟩
          · rw [chV_S, hab]; exact b5
          · cases i with
            | zero => cases hx; exact q
            | succ i =>
              rw [chV_S, hab] at hx
              exact b6 i (by omega) x hx
/-- fits: the OWNERS -/
theorem lq_334o (J : RJ T N b ks L s) (hp : p < 200) (hv : vK L v) (U : UPv L b s v) (hw : vK L w) (hO : ∀ i, i < nmL L (cK w) → s.1 157 (5 * p + i) = oR (oK w i)) (R : mjR) : ∀ (r i n : Nat) (g : Bool), i + r = nmL L (cK v) → r < n → (g = true → cK v = cK w) → L_334_139 R n 97 (nI p) (b2 g) (nI i) (mjW0 s) = some (some (.int (b2 (g && allR (fun i => decide (oK v i = oK w i)) i r))), mjW0 s)
  | r, i, 0, g, e, hr, hg => by omega
  | r, i, n + 1, g, e, hr, hg => by
    have hn := J.2.2.2.2.2.1
    have hc := hv.cl hn
    have n5 := (vK.n5 hn hc).2
    have h16 := J.len
    have hb := J.b1
    have h104 : s.1 104 (16 * b + cK v) = nI (nmL L (cK v)) := (J.hd hc).2.2.1.1
    rw [L334b_S]
    unfold b_334_139 b_334_190 b_334_183
    rw [xg_97_15, xg_97_95, U.1, wa_104 (by omega), h104]
    cases r with
    | zero =>
      rw [if_pos (nI_le (by omega) (by omega)), if_pos (b2_nar _)]
      show _ = some (some (Value.int (b2 (g && true))), mjW0 s)
      rw [Bool.and_true]
    | succ r =>
      rw [if_neg (nI_ge (by omega) (by omega))]
      cases g with
      | false =>
        rw [if_pos (show b2 false = 0 from rfl), if_pos (b2_nar _)]
        rfl
      | true =>
        have ec := hg rfl
        rw [if_neg (show ¬ b2 true = 0 by decide), xg_97_93, wa_165 (by omega), U.2 i (by omega), xg_97_81, i5m, wa_157 (by omega), hO i (by rw [← ec]; omega), nI_1, Bool.true_and]
        show _ = some (some (Value.int (b2 (decide (oK v i = oK w i) && allR _ (i + 1) r))), mjW0 s)
        by_cases q : oK v i = oK w i
        · rw [if_pos (by rw [q]), decide_eq_true q, Bool.true_and]
          have := lq_334o J hp hv U hw hO R r (i + 1) n true (by omega) (by omega) (fun _ => ec)
          rw [Bool.true_and] at this
          exact this
        · rw [if_neg (fun x => q ((oR_inj (hv.ow hn i (by omega)) (hw.ow hn i (by omega))).mp x)), decide_eq_false q, Bool.false_and]
          have := lq_334o J hp hv U hw hO R r (i + 1) n false (by omega) (by omega) (fun e => by cases e)
          rw [Bool.false_and] at this
          exact this
end MJA93
end
section
/-! ===== the reference's judge of BLOCKS: fits, and how TYPES come ===== -/
/-- what a TYPE more changes -/
def oT (n : Nat) : mjSt3 → mjSt3 → Prop := offG (fun h j => (h = 97 ∧ j = 82) ∨ ((h = 155 ∨ h = 156) ∧ j = n) ∨ (h = 157 ∧ 5 * n ≤ j ∧ j < 5 * n + 5)) (fun _ _ => False)
section MJA94
variable {T : TT} {d N b k t c n m v u w p q : Nat} {ks : List Nat} {L : List CD} {s s' : mjSt3} {ti : Int32}
theorem nI_m2 {a : Nat} (h : a < 2 ^ 31) : ¬ nI a = -2 := fun e => nI_pos h (by rw [e]; decide)
/-- fits -/
theorem x_334 (Ac : ACY T N L) (J : RJ T N b ks L s) (A : ∀ x, x < L.length → ABr T L b s x) (hp : p < 200) (hq : q < 200) {al al' : Bool} (Y : TY1 L b s p t al) (Z : TY1 L b s q w al') : ∃ s', mjF (d + 3) 334 [.ref 97, .int (nI p), .int (nI q)] (mjW0 s) = some (some (.int (b2 (fitT T L t w))), mjW0 s') ∧ oUp s s' := by
  have hn := Ac.1
  have hb := J.b1
  have h16 := J.len
  have clo : ∀ k, vK L k → 16 * b + cK k < 2 ^ 31 := fun k hk => by have := hk.cl hn; omega
  rw [e_334]
  unfold f_334 b_334_0 b_334_20 b_334_63
  simp only [xg_97_79, wa_155 hp, wa_155 hq, Y.1, Z.1]
  match t, w, Y, Z with
  | 0, 0, _, _ => exact ⟨s, rfl, offG.rf⟩
  | 0, 1, _, _ => exact ⟨s, rfl, offG.rf⟩
  | 0, w + 2, _, Z =>
    refine ⟨s, ?_, offG.rf⟩
    rw [if_pos (show tyC b 0 = -1 from rfl), if_neg (show ¬ tyC b 0 = tyC b (w + 2) from fun e => nI_m1 (clo w Z.2.2.1) e.symm)]
    rfl
  | 1, 0, _, _ => exact ⟨s, rfl, offG.rf⟩
  | 1, 1, _, _ => exact ⟨s, rfl, offG.rf⟩
  | 1, w + 2, _, Z =>
    refine ⟨s, ?_, offG.rf⟩
    rw [if_neg (show ¬ tyC b 1 = -1 from (by decide : ¬ (-2 : Int32) = -1)), if_neg (show ¬ tyC b (w + 2) = -1 from nI_m1 (clo w Z.2.2.1)), if_pos (show tyC b 1 = -2 from rfl), if_pos (show tyC b 1 = -2 from rfl)]
    rfl
  | k + 2, 0, Y, _ =>
    refine ⟨s, ?_, offG.rf⟩
    rw [if_neg (show ¬ tyC b (k + 2) = -1 from nI_m1 (clo k Y.2.2.1)), if_pos (show tyC b 0 = -1 from rfl), if_neg (show ¬ tyC b (k + 2) = tyC b 0 from nI_m1 (clo k Y.2.2.1))]
    rfl
  | k + 2, 1, Y, _ =>
    refine ⟨s, ?_, offG.rf⟩
    rw [if_neg (show ¬ tyC b (k + 2) = -1 from nI_m1 (clo k Y.2.2.1)), if_neg (show ¬ tyC b 1 = -1 from (by decide : ¬ (-2 : Int32) = -1)), if_neg (show ¬ tyC b (k + 2) = -2 from nI_m2 (clo k Y.2.2.1)), if_pos (show tyC b 1 = -2 from rfl), if_neg (show ¬ tyC b (k + 2) = -2 from nI_m2 (clo k Y.2.2.1))]
    rfl
  | k + 2, w + 2, Y, Z =>
    have vk := Y.2.2.1
    have vw := Z.2.2.1
    have ck := vk.cl hn
    have cw := vw.cl hn
    rw [if_neg (show ¬ tyC b (k + 2) = -1 from nI_m1 (clo k vk)), if_neg (show ¬ tyC b (w + 2) = -1 from nI_m1 (clo w vw)), if_neg (show ¬ tyC b (k + 2) = -2 from nI_m2 (clo k vk)), if_neg (show ¬ tyC b (w + 2) = -2 from nI_m2 (clo w vw))]
    obtain ⟨s1, a1, a2, a3⟩ := x_329 (d := d + 1) hn hp Y
    have A1 : ∀ x, x < L.length → ABr T L b s1 x := fun x hx => a2.A (A x hx)
    obtain ⟨s2, v', j, b1, b2', b3, b4, b5, b6, b7⟩ := lq_334w (d := d) (p := q) Ac hq (w := cK w) (by omega) 16 mjN s1 k (by
      have := up16 Ac ck
      rw [show (16 : Nat) + 1 = 16 + 1 from rfl, upI_add, this]) (by have := mjN_v; omega) (oUp.J a2 J) A1 vk a3 (by rw [a2.r (by decide) (by decide) (by decide)]; exact Z.1)
    have J2 := oUp.J b2' (oUp.J a2 J)
    have o2 : oUp s s2 := a2.tr b2'
    have hO : ∀ i, i < nmL L (cK w) → s2.1 157 (5 * q + i) = oR (oK w i) := fun i hi => by rw [o2.r (by decide) (by decide) (by decide)]; exact Z.2.2.2 i hi
    have lo := fun g hg => lq_334o (p := q) J2 hq b4 b3 vw hO (mjF (d + 2)) (nmL L (cK v')) 0 mjN g (by omega) (by have := (vK.n5 hn (b4.cl hn)).2; have := mjN_v; omega) hg
    have h5 : s2.1 155 q = nI (16 * b + cK w) := by rw [o2.r (by decide) (by decide) (by decide)]; exact Z.1
    rw [xV_97, a1, bN_s, b1]
    unfold b_334_117 b_334_135
    rw [xg_97_95, b3.1, xg_97_79, wa_155 hq, h5]
    obtain ⟨cu1, cu2⟩ := chV_v hn j k v' vk b5
    have j16 : j < 16 := by
      by_cases g : j < 16
      · exact g
      · have := up16 Ac ck
        rw [show j = 16 + (j - 16) by omega, upI_add, this] at cu2
        cases cu2
    have st := chV_st (T := T) hn vk j
    rw [b5] at st
    cases hch : chn (nmL L) (abT T L) (cK k) j with
    | none => rw [hch] at st; cases st
    | some v0 =>
      rw [hch] at st
      have ev : v' = stand (nmL L) v0 k := Option.some.inj st
      have v0v := chn_v hn ck j v0 hch
      have ec0 : cK v' = cK v0 := by rw [ev, stand_c hn v0v]
      by_cases g : cK v' = cK w
      · rw [if_pos (by rw [g])]
        have l1 := lo true (fun _ => g)
        refine ⟨s2, l1.trans ?_, o2⟩
        have vw' : vwT (nmL L) (abT T L) (cK k) (cK w) = some v0 := by rw [← g, ec0]; exact vw_chn Ac ck hch j16
        have ef : fitT T L (k + 2) (w + 2) = decide (v' = w) := by
          show (match vwT (nmL L) (abT T L) (cK k) (cK w) with
            | some v => decide (stand (nmL L) v k = w)
            | none => false) = _
          rw [vw', ev]
        rw [ef, Bool.true_and]
        have iff : allR (fun i => decide (oK v' i = oK w i)) 0 (nmL L (cK v')) = true ↔ v' = w := by
          rw [allR_iff, vK_ext hn b4 vw]
          exact ⟨fun h => ⟨g, fun i hi => of_decide_eq_true (h i (by omega) (by omega))⟩, fun h i _ hi => decide_eq_true (h.2 i (by omega))⟩
        by_cases e : v' = w
        · rw [iff.mpr e, decide_eq_true e]
        · rw [decide_eq_false e, show allR (fun i => decide (oK v' i = oK w i)) 0 (nmL L (cK v')) = false by
            cases hA : allR (fun i => decide (oK v' i = oK w i)) 0 (nmL L (cK v')) with
            | false => rfl
            | true => exact absurd (iff.mp hA) e]
      · rw [if_neg (fun x => g (by have := b4.cl hn; have := (nI_eq (by omega) (by omega)).mp x; omega))]
        have l1 := lo false (fun e => by cases e)
        refine ⟨s2, l1.trans ?_, o2⟩
        have ef : fitT T L (k + 2) (w + 2) = false := by
          show (match vwT (nmL L) (abT T L) (cK k) (cK w) with
            | some v => decide (stand (nmL L) v k = w)
            | none => false) = _
          cases hv : vwT (nmL L) (abT T L) (cK k) (cK w) with
          | none => rfl
          | some x =>
            exfalso
            obtain ⟨i, hi⟩ := (vw_iff (a := cK w) Ac ck).mp (by rw [hv]; rfl)
            obtain ⟨y, y1, y2⟩ := chn_ex hn ck i _ hi
            have sy := chV_st (T := T) hn vk i
            rw [y1] at sy
            have ecy : cK (stand (nmL L) y k) = cK w := by rw [stand_c hn (chn_v hn ck i y y1), y2]
            by_cases gi : i < j
            · exact b6 i gi _ sy ecy
            · by_cases ge : i = j
              · rw [ge, b5] at sy
                exact g (by rw [Option.some.inj sy]; exact ecy)
              · have un : upT T L (cK v') = none := by unfold upT; rw [b7 g]; rfl
                rw [show i = j + (i - j - 1 + 1) by omega, upI_add, cu2] at hi
                have e1 : upI (upT T L) (i - j - 1 + 1) (cK v') = none := by
                  show (match upT T L (cK v') with
                    | none => none
                    | some y => upI (upT T L) (i - j - 1) y) = none
                  rw [un]
                dsimp only at hi
                rw [e1] at hi
                cases hi
        rw [ef, Bool.false_and]
/-- type -/
theorem x_324 (hn : n < 200) (h82 : s.1 97 82 = nI n) (ti : Int32) : ∃ s', mjF (d + 1) 324 [.ref 97, .int ti] (mjW0 s) = some (none, mjW0 s') ∧ oT n s s' ∧ s'.1 155 n = ti ∧ s'.1 156 n = 0 ∧ s'.1 97 82 = nI (n + 1) := by
  obtain ⟨s1, h1⟩ : ∃ z, z = uI s 155 (upd (s.1 155) n ti) := ⟨_, rfl⟩
  obtain ⟨s2, h2⟩ : ∃ z, z = uI s1 156 (upd (s1.1 156) n 0) := ⟨_, rfl⟩
  obtain ⟨s3, h3⟩ : ∃ z, z = uI s2 97 (upd (s2.1 97) 82 (nI (n + 1))) := ⟨_, rfl⟩
  have r1 : ∀ h, ¬ h = 155 → s1.1 h = s.1 h := fun h e => by rw [h1, uI_ne _ _ _ _ e]
  have r2 : ∀ h, ¬ h = 156 → s2.1 h = s1.1 h := fun h e => by rw [h2, uI_ne _ _ _ _ e]
  have r3 : ∀ h, ¬ h = 97 → s3.1 h = s2.1 h := fun h e => by rw [h3, uI_ne _ _ _ _ e]
  have o1 : oT n s s1 := by rw [h1]; exact offG.w (Or.inr (Or.inl ⟨Or.inl rfl, rfl⟩))
  have o2 : oT n s1 s2 := by rw [h2]; exact offG.w (Or.inr (Or.inl ⟨Or.inr rfl, rfl⟩))
  have o3 : oT n s2 s3 := by rw [h3]; exact offG.w (Or.inl ⟨rfl, rfl⟩)
  refine ⟨s3, ?_, (o1.tr o2).tr o3, ?_, ?_, ?_⟩
  · rw [e_324]
    unfold f_324 b_324_0
    rw [xg_97_79, xg_97_82, h82, ws_155 hn, ← h1, xg_97_80, xg_97_82, r1 97 (by decide), h82, ws_156 hn, ← h2, xg_97_82, r2 97 (by decide), r1 97 (by decide), h82, nI_1, xp_97_82, ← h3]
  · rw [r3 155 (by decide), r2 155 (by decide), h1, uI_same, upd_g, if_pos rfl]
  · rw [r3 156 (by decide), h2, uI_same, upd_g, if_pos rfl]
  · rw [h3, uI_same, upd_g, if_pos rfl]
theorem oT.r (o : oT n s s') {h : Nat} (hh : ¬ (h = 97 ∨ h = 155 ∨ h = 156 ∨ h = 157)) : s'.1 h = s.1 h := funext fun j => o.1 h j (by omega)
theorem L326_S (R : mjR) (n a : Nat) (b e : Int32) (hp : mjH) : L_326_20 R (n + 1) a b e hp = b_326_20 R (L_326_20 R n) a b e hp := rfl
theorem lq_326 (hn : HN T N L) (R : mjR) {kk : Nat} (hv : vK L kk) (hk : k < 1600) (h200 : n < 200) : ∀ (r i m : Nat) (s : mjSt3), i + r = 5 → r < m → s.1 97 82 = nI (n + 1) → s.1 138 k = nI (nmL L (cK kk)) → KRr b s k (nmL L (cK kk)) kk → (∀ x, x < i → x < nmL L (cK kk) → s.1 157 (5 * n + x) = oR (oK kk x)) → ∃ s', L_326_20 R m 97 (nI k) (nI i) (mjW0 s) = some (none, mjW0 s') ∧ oT n s s' ∧ s'.1 155 = s.1 155 ∧ s'.1 156 = s.1 156 ∧ s'.1 97 = s.1 97 ∧ ∀ x, x < nmL L (cK kk) → s'.1 157 (5 * n + x) = oR (oK kk x)
  | r, i, 0, s, e, hr, h82, h8, K, w => by omega
  | 0, i, m + 1, s, e, hr, h82, h8, K, w => by
    have n5 := (vK.n5 hn (hv.cl hn)).2
    refine ⟨s, ?_, offG.rf, rfl, rfl, rfl, fun x hx => w x (by omega) hx⟩
    rw [L326_S]
    unfold b_326_20
    rw [if_neg (nI_pos (by omega)), if_pos (show (5 : Int32) ≤ nI i from nI_le (a := 5) (by omega) (by omega))]
  | r + 1, i, m + 1, s, e, hr, h82, h8, K, w => by
    have n5 := (vK.n5 hn (hv.cl hn)).2
    have go : ∀ x : Int32, (i < nmL L (cK kk) → x = oR (oK kk i)) → L_326_20 R (m + 1) 97 (nI k) (nI i) (mjW0 s) = L_326_20 R m 97 (nI k) (nI (i + 1)) (mjW0 (uI s 157 (upd (s.1 157) (5 * n + i) x))) → ∃ s', L_326_20 R (m + 1) 97 (nI k) (nI i) (mjW0 s) = some (none, mjW0 s') ∧ oT n s s' ∧ s'.1 155 = s.1 155 ∧ s'.1 156 = s.1 156 ∧ s'.1 97 = s.1 97 ∧ ∀ x, x < nmL L (cK kk) → s'.1 157 (5 * n + x) = oR (oK kk x) := by
      intro x hx pre
      have r1 : ∀ h, ¬ h = 157 → (uI s 157 (upd (s.1 157) (5 * n + i) x)).1 h = s.1 h := fun h e => uI_ne _ _ _ _ e
      obtain ⟨s', b1, b2', b3, b4, b5, b6⟩ := lq_326 hn R hv hk h200 r (i + 1) m (uI s 157 (upd (s.1 157) (5 * n + i) x)) (by omega) (by omega) (by rw [r1 97 (by decide)]; exact h82) (by rw [r1 138 (by decide)]; exact h8) ⟨by rw [r1 139 (by decide)]; exact K.1, fun y hy => by rw [r1 142 (by decide)]; exact K.2 y hy⟩ (fun y hy hn' => by
        rw [uI_same, upd_g]
        by_cases e' : y = i
        · rw [if_pos (by rw [e']), hx (by omega), e']
        · rw [if_neg (by omega)]; exact w y (by omega) hn')
      have o1 : oT n s (uI s 157 (upd (s.1 157) (5 * n + i) x)) := offG.w (Or.inr (Or.inr ⟨rfl, by omega, by omega⟩))
      exact ⟨s', pre.trans b1, o1.tr b2', by rw [b3, r1 155 (by decide)], by rw [b4, r1 156 (by decide)], by rw [b5, r1 97 (by decide)], b6⟩
    by_cases g : i < nmL L (cK kk)
    · refine go _ (fun _ => rfl) ?_
      rw [L326_S]
      unfold b_326_20 b_326_67
      rw [if_neg (nI_pos (by omega)), if_neg (show ¬ (5 : Int32) ≤ nI i from nI_ge (b := 5) (by omega) (by decide)), xg_97_81, xg_97_82, h82, xg_97_49, wa_138 hk, h8, if_neg (nI_ge g (by omega)), xg_97_53, i5m, wa_142 (by omega), K.2 i g, i5s, ws_157 (by omega), nI_1]
    · refine go 0 (fun h => absurd h g) ?_
      rw [L326_S]
      unfold b_326_20 b_326_67
      rw [if_neg (nI_pos (by omega)), if_neg (show ¬ (5 : Int32) ≤ nI i from nI_ge (b := 5) (by omega) (by decide)), xg_97_81, xg_97_82, h82, xg_97_49, wa_138 hk, h8, if_pos (nI_le (by omega) (by omega)), i5s, ws_157 (by omega), nI_1]
/-- typeOf -/
theorem x_326 (hn : HN T N L) {ty : Nat} (K : TKr L b s ti ty) (h200 : n < 200) (h82 : s.1 97 82 = nI n) : ∃ s', mjF (d + 2) 326 [.ref 97, .int ti] (mjW0 s) = some (none, mjW0 s') ∧ oT n s s' ∧ TY1 L b s' n ty false ∧ s'.1 97 82 = nI (n + 1) := by
  have hmj := mjN_v
  match ty, K with
  | 0, K =>
    have e1 : ti = -1 := K
    obtain ⟨s1, a1, a2, a3, a4, a5⟩ := x_324 (d := d) h200 h82 (-1)
    refine ⟨s1, ?_, a2, ⟨a3, a4, trivial⟩, a5⟩
    rw [e_326]
    unfold f_326 b_326_0 b_326_15
    rw [e1, if_neg (by decide), xV_97, a1, bN_s, show mjN = 99999999 + 1 from rfl, L326_S]
    unfold b_326_20
    rw [if_pos (by decide)]
  | kk + 2, ⟨vk, k, h1, h2, h3, h4⟩ =>
    obtain ⟨s1, a1, a2, a3, a4, a5⟩ := x_324 (d := d) h200 h82 (nI (16 * b + cK kk))
    obtain ⟨s', b1, b2', b3, b4, b5, b6⟩ := lq_326 hn (mjF (d + 1)) vk h1 h200 5 0 mjN s1 (by omega) (by omega) a5 (by rw [a2.r (by decide)]; exact h3) ⟨by rw [a2.r (by decide)]; exact h4.1, fun y hy => by rw [a2.r (by decide)]; exact h4.2 y hy⟩ (fun x hx => by omega)
    refine ⟨s', ?_, a2.tr b2', ⟨by rw [b3, a3]; rfl, by rw [b4, a4]; rfl, vk, b6⟩, by rw [b5, a5]⟩
    rw [← b1, e_326]
    unfold f_326 b_326_0 b_326_15
    rw [h2, if_pos (nI_pos' (by omega)), xg_97_50, wa_139 h1, h4.1, xV_97, a1, bN_s]
    rfl
theorem x_318o (hv : vK L v) (hn : HN T N L) (U : UPo L s v) {o : Nat} (ho : o ≤ 6) (h5 : o < 5 → o < nmL L (cK v)) : mjF (d + 1) 318 [.ref 97, .int (oR o)] (mjW0 s) = some (some (.int (oR (if o < 5 then oK v o else o))), mjW0 s) := by
  have n5 := (vK.n5 hn (hv.cl hn)).2
  rw [e_318]
  unfold f_318 b_318_0
  by_cases g : o < 5
  · have e : oR o = nI o := by unfold oR; rw [if_neg (by omega), if_neg (by omega)]
    rw [if_pos g, e, if_neg (nI_pos (by omega)), xg_97_93, wa_165 (by omega), U o (h5 g)]
  · rw [if_neg g]
    have key : ∀ o, o < 7 → ¬ o < 5 → oR o < 0 := by decide
    rw [if_pos (key o (by omega) g)]
theorem L332_S (R : mjR) (n a : Nat) (b e : Int32) (hp : mjH) : L_332_7 R (n + 1) a b e hp = b_332_7 R (L_332_7 R n) a b e hp := rfl
theorem lq_332 (hn : HN T N L) {kk : Nat} (hk' : vK L kk) (hv : vK L v) (hk : k < 1600) (h200 : n < 200) (hnm : tyN L (cK v) (kk + 2)) : ∀ (r i m : Nat) (s : mjSt3), i + r = nmL L (cK kk) → r < m → UPo L s v → s.1 97 82 = nI (n + 1) → s.1 138 k = nI (nmL L (cK kk)) → KRr b s k (nmL L (cK kk)) kk → (∀ x, x < i → s.1 157 (5 * n + x) = oR (oK (stand (nmL L) kk v) x)) → ∃ s', L_332_7 (mjF (d + 1)) m 97 (nI k) (nI i) (mjW0 s) = some (none, mjW0 s') ∧ oT n s s' ∧ s'.1 155 = s.1 155 ∧ s'.1 156 = s.1 156 ∧ s'.1 97 = s.1 97 ∧ ∀ x, x < nmL L (cK kk) → s'.1 157 (5 * n + x) = oR (oK (stand (nmL L) kk v) x)
  | r, i, 0, s, e, hr, U, h82, h8, K, w => by omega
  | 0, i, m + 1, s, e, hr, U, h82, h8, K, w => by
    have n5 := (vK.n5 hn (hk'.cl hn)).2
    refine ⟨s, ?_, offG.rf, rfl, rfl, rfl, fun x hx => w x (by omega)⟩
    rw [L332_S]
    unfold b_332_7
    rw [if_neg (nI_pos (by omega)), xg_97_49, wa_138 hk, h8, if_pos (nI_le (by omega) (by omega))]
  | r + 1, i, m + 1, s, e, hr, U, h82, h8, K, w => by
    have n5 := (vK.n5 hn (hk'.cl hn)).2
    have hi : i < nmL L (cK kk) := by omega
    obtain ⟨z, hz⟩ : ∃ z, z = uI s 157 (upd (s.1 157) (5 * n + i) (oR (oK (stand (nmL L) kk v) i))) := ⟨_, rfl⟩
    have r1 : ∀ h, ¬ h = 157 → z.1 h = s.1 h := fun h e => by rw [hz]; exact uI_ne _ _ _ _ e
    obtain ⟨s', b1, b2', b3, b4, b5, b6⟩ := lq_332 hn hk' hv hk h200 hnm r (i + 1) m z (by omega) (by omega) (fun y hy => by rw [r1 165 (by decide)]; exact U y hy) (by rw [r1 97 (by decide)]; exact h82) (by rw [r1 138 (by decide)]; exact h8) ⟨by rw [r1 139 (by decide)]; exact K.1, fun y hy => by rw [r1 142 (by decide)]; exact K.2 y hy⟩ (fun y hy => by
      rw [hz, uI_same, upd_g]
      by_cases e' : y = i
      · rw [if_pos (by rw [e']), e']
      · rw [if_neg (by omega)]; exact w y (by omega))
    have o1 : oT n s z := by rw [hz]; exact offG.w (Or.inr (Or.inr ⟨rfl, by omega, by omega⟩))
    refine ⟨s', ?_, o1.tr b2', by rw [b3, r1 155 (by decide)], by rw [b4, r1 156 (by decide)], by rw [b5, r1 97 (by decide)], b6⟩
    rw [← b1, L332_S]
    unfold b_332_7
    rw [if_neg (nI_pos (by omega)), xg_97_49, wa_138 hk, h8, if_neg (nI_ge hi (by omega)), xg_97_81, xg_97_82, h82, xg_97_53, i5m, wa_142 (by omega), K.2 i hi, xV_97, x_318o hv hn U (hk'.ow hn i (by omega)) (hnm kk rfl i hi), bI_s, i5s, ws_157 (by omega), ← stand_o hn hk' hi, ← hz, nI_1]
/-- typeUnder -/
theorem x_332 (hn : HN T N L) {ty : Nat} (K : TKr L b s ti ty) (h200 : n < 200) (h82 : s.1 97 82 = nI n) (hv : vK L v) (U : UPo L s v) (hnm : tyN L (cK v) ty) : ∃ s', mjF (d + 3) 332 [.ref 97, .int ti] (mjW0 s) = some (none, mjW0 s') ∧ oT n s s' ∧ TY1 L b s' n (sty (nmL L) ty v) false ∧ s'.1 97 82 = nI (n + 1) := by
  have hmj := mjN_v
  obtain ⟨s1, a1, a2, a3, a4⟩ := x_326 (d := d) hn K h200 h82
  match ty, K, a3, hnm with
  | 0, K, a3, hnm =>
    have e1 : ti = -1 := K
    refine ⟨s1, ?_, a2, a3, a4⟩
    rw [e_332]
    unfold f_332 b_332_0
    rw [xV_97, a1, bN_s, e1, show mjN = 99999999 + 1 from rfl, L332_S]
    unfold b_332_7
    rw [if_pos (by decide)]
  | kk + 2, ⟨vk, k, h1, h2, h3, h4⟩, a3, hnm =>
    have n5 := (vK.n5 hn (vk.cl hn)).2
    obtain ⟨s', b1, b2', b3, b4, b5, b6⟩ := lq_332 (d := d + 1) hn vk hv h1 h200 hnm (nmL L (cK kk)) 0 mjN s1 (by omega) (by omega) (fun i hi => by rw [a2.r (by decide)]; exact U i hi) a4 (by rw [a2.r (by decide)]; exact h3) ⟨by rw [a2.r (by decide)]; exact h4.1, fun y hy => by rw [a2.r (by decide)]; exact h4.2 y hy⟩ (fun x hx => by omega)
    have ec : cK (stand (nmL L) kk v) = cK kk := stand_c hn vk
    refine ⟨s', ?_, a2.tr b2', ⟨?_, by rw [b4, a3.2.1], vK.stand hn vk hv, fun i hi => b6 i (by rw [← ec]; exact hi)⟩, by rw [b5, a4]⟩
    · rw [← b1, e_332]
      unfold f_332 b_332_0
      rw [xV_97, a1, bN_s, h2]
      rfl
    · rw [b3, a3.1]
      show nI (16 * b + cK kk) = nI (16 * b + cK (stand (nmL L) kk v))
      rw [ec]
end MJA94
end
section
/-! ===== the reference's judge of BLOCKS: isHidden ===== -/
def anyR (f : Nat → Bool) : Nat → Nat → Bool
  | _, 0 => false
  | i, r + 1 => f i || anyR f (i + 1) r
theorem anyR_iff {f : Nat → Bool} : ∀ (r i : Nat), anyR f i r = true ↔ ∃ j, i ≤ j ∧ j < i + r ∧ f j = true
  | 0, i => ⟨fun h => (by cases h), fun ⟨j, h1, h2, _⟩ => by omega⟩
  | r + 1, i => by
    show (f i || anyR f (i + 1) r) = true ↔ _
    rw [Bool.or_eq_true, anyR_iff r (i + 1)]
    constructor
    · intro h
      rcases h with h | ⟨j, h1, h2, h3⟩
      · exact ⟨i, by omega, by omega, h⟩
      · exact ⟨j, by omega, by omega, h3⟩
    · intro ⟨j, h1, h2, h3⟩
      by_cases e : j = i
      · rw [e] at h3; exact Or.inl h3
      · exact Or.inr ⟨j, by omega, by omega, h3⟩
theorem anyB_iff {f : Nat → Bool} : ∀ (n : Nat), anyB f n = true ↔ ∃ j, j < n ∧ f j = true
  | 0 => ⟨fun h => (by cases h), fun ⟨j, h1, _⟩ => by omega⟩
  | n + 1 => by
    show (anyB f n || f n) = true ↔ _
    rw [Bool.or_eq_true, anyB_iff n]
    constructor
    · intro h
      rcases h with ⟨j, h1, h2⟩ | h
      · exact ⟨j, by omega, h2⟩
      · exact ⟨n, by omega, h⟩
    · intro ⟨j, h1, h2⟩
      by_cases e : j = n
      · rw [e] at h2; exact Or.inr h2
      · exact Or.inl ⟨j, by omega, h2⟩
theorem any_RB {f : Nat → Bool} (n : Nat) : anyR f 0 n = anyB f n := by
  have h1 := anyR_iff (f := f) n 0
  have h2 := anyB_iff (f := f) n
  cases a : anyR f 0 n with
  | true =>
    obtain ⟨j, _, x, y⟩ := h1.mp a
    exact (h2.mpr ⟨j, by omega, y⟩).symm
  | false =>
    cases e : anyB f n with
    | false => rfl
    | true =>
      obtain ⟨j, x, y⟩ := h2.mp e
      rw [h1.mpr ⟨j, by omega, by omega, y⟩] at a
      cases a
theorem hTs_iff {k : Nat} : ∀ (n : Nat), hTs k n = true ↔ ∃ i, i < n ∧ oK k i = 6
  | 0 => ⟨fun h => (by cases h), fun ⟨j, h1, _⟩ => by omega⟩
  | n + 1 => by
    show (hTs k n || decide (oK k n = 6)) = true ↔ _
    rw [Bool.or_eq_true, hTs_iff n, decide_eq_true_iff]
    constructor
    · intro h
      rcases h with ⟨j, h1, h2⟩ | h
      · exact ⟨j, by omega, h2⟩
      · exact ⟨n, by omega, h⟩
    · intro ⟨j, h1, h2⟩
      by_cases e : j = n
      · rw [e] at h2; exact Or.inr h2
      · exact Or.inl ⟨j, by omega, h2⟩
section MJA95
variable {T : TT} {d N b k t c n m : Nat} {ks : List Nat} {L : List CD} {s s' : mjSt3} {ti : Int32} {tr : Bool}
/-- this stands among a KIND's OWNERS just where its token does -/
theorem kd_this (hn : HN T N L) (hcl : c < L.length) {u : Nat} (h : kdT T L (some c) false t = some u) {i : Nat} (hi : i < nmL L (cK u)) : oK u i = 6 ↔ (T (t + 2 + 2 * i)).1 = 12 := by
  unfold kdT at h
  cases hc : clsK T L (kyT T t) with
  | none => rw [hc] at h; cases h
  | some e =>
    rw [hc] at h
    dsimp only at h
    have he : e < L.length := fnd_lt hc
    have n5 := vK.n5 hn he
    by_cases g : cntO T 6 (t + 2) = (hC L e).2.1
    · rw [if_pos g] at h
      cases hf : fnd (fun i => decide (owT T L (some c) false (t + 2 + 2 * i) = none)) (hC L e).2.1 with
      | some i => rw [hf] at h; cases h
      | none =>
        rw [hf] at h
        cases h
        have f8 : ∀ i, i < nmL L e → (owT T L (some c) false (t + 2 + 2 * i)).getD 0 < 8 := by
          intro i hi
          cases ho : owT T L (some c) false (t + 2 + 2 * i) with
          | none => show 0 < 8; omega
          | some x =>
            have := owT_le hn (fun c' e => by cases e; exact hcl) ho
            show x < 8
            omega
        have ec : cK (mkK e (hC L e).2.1 (fun i => (owT T L (some c) false (t + 2 + 2 * i)).getD 0)) = e := mkK_c n5.2 f8
        rw [ec] at hi
        have eo : oK (mkK e (hC L e).2.1 (fun i => (owT T L (some c) false (t + 2 + 2 * i)).getD 0)) i = (owT T L (some c) false (t + 2 + 2 * i)).getD 0 := mkK_o n5.2 f8 hi
        rw [eo]
        have nn := of_decide_eq_false (fnd_none.mp hf i hi)
        cases ho : owT T L (some c) false (t + 2 + 2 * i) with
        | none => exact absurd ho nn
        | some x =>
          show x = 6 ↔ _
          unfold owT at ho
          by_cases g13 : (T (t + 2 + 2 * i)).1 = 13
          · rw [if_pos g13] at ho
            cases ho
            rw [g13]
            decide
          · rw [if_neg g13] at ho
            dsimp only at ho
            by_cases g12 : (T (t + 2 + 2 * i)).1 = 12
            · rw [if_pos g12, if_neg (by decide)] at ho
              cases ho
              exact ⟨fun _ => g12, fun _ => rfl⟩
            · rw [if_neg g12] at ho
              have := nmK_lt hn hcl ho
              exact ⟨fun e => by omega, fun e => absurd e g12⟩
    · rw [if_neg g] at h; cases h
theorem vK_z (hn : HN T N L) (h : vK L k) {i : Nat} (h1 : nmL L (cK k) ≤ i) (h5 : i < 5) : oK k i = 0 := by
  obtain ⟨e, f, h1', h2, h3⟩ := h
  have n5 := (vK.n5 hn h1').2
  have f8 : ∀ i, i < nmL L e → f i < 8 := fun i hi => by have := h3 i hi; omega
  have ec : cK k = e := by rw [h2]; exact mkK_c n5 f8
  rw [ec] at h1
  rw [h2]
  exact mkK_z n5 f8 h1 h5
theorem L331_S (R : mjR) (n a : Nat) (b e f : Int32) (hp : mjH) : L_331_4 R (n + 1) a b e f hp = b_331_4 R (L_331_4 R n) a b e f hp := rfl
theorem lq_331 (nk : NKp T N) (K : Kd T s k t) (KD : KDk T N t) (hk : k < 1600) (R : mjR) : ∀ (r i n : Nat) (g : Bool), i + r = cntO T 6 (t + 2) → r < n → L_331_4 R n 97 (nI k) (b2 g) (nI i) (mjW0 s) = some (some (.int (b2 (g || anyR (fun j => decide ((T (t + 2 + 2 * j)).1 = 12)) i r))), mjW0 s)
  | r, i, 0, g, e, hr => by omega
  | 0, i, n + 1, g, e, hr => by
    rw [L331_S]
    unfold b_331_4 b_331_51
    rw [if_neg (nI_pos (by omega)), xg_97_49, wa_138 hk, K.2.2.2.1, if_pos (nI_le (by omega) (by have := K.1; omega)), if_pos (b2_nar _)]
    show _ = some (some (Value.int (b2 (g || false))), mjW0 s)
    rw [Bool.or_false]
  | r + 1, i, n + 1, g, e, hr => by
    have c5 := K.1
    rw [L331_S]
    unfold b_331_4 b_331_39 b_331_44
    rw [if_neg (nI_pos (by omega)), xg_97_49, wa_138 hk, K.2.2.2.1, if_neg (nI_ge (by omega) (by omega)), nI_1]
    show _ = some (some (Value.int (b2 (g || (decide ((T (t + 2 + 2 * i)).1 = 12) || anyR _ (i + 1) r)))), mjW0 s)
    have on : L_331_4 R n 97 (nI k) 1 (nI (i + 1)) (mjW0 s) = some (some (.int (b2 true)), mjW0 s) := lq_331 nk K KD hk R r (i + 1) n true (by omega) (by omega)
    have off := lq_331 nk K KD hk R r (i + 1) n false (by omega) (by omega)
    cases g with
    | true =>
      rw [if_neg (show ¬ b2 true = 0 by decide)]
      exact on
    | false =>
      rw [if_pos (show b2 false = 0 from rfl), xg_97_51, i5m, wa_140 (by omega), (K.2.2.2.2 i (by omega)).1, Bool.false_or]
      have ow := KD.2.2.2.2.1 i (by omega)
      have tN : t + 2 + 2 * i ≤ N := by have := KD.2.2.2.1; omega
      have iff : owR T (t + 2 + 2 * i) = -2 ↔ (T (t + 2 + 2 * i)).1 = 12 := by
        unfold owR
        rcases ow with o | o | o
        · rw [o, if_neg (by decide), if_pos rfl]; exact ⟨fun _ => rfl, fun _ => rfl⟩
        · rw [o, if_neg (by decide), if_neg (by decide)]; decide
        · rw [if_pos o, o]
          exact ⟨fun x => absurd x (nk _ tN o).2, fun x => absurd x (by decide)⟩
      by_cases q : (T (t + 2 + 2 * i)).1 = 12
      · rw [if_pos ((lg_cmp_eq _ _).mpr (iff.mpr q)), decide_eq_true q]
        exact on
      · rw [if_neg (fun x => q (iff.mp ((lg_cmp_eq _ _).mp x))), decide_eq_false q, Bool.false_or]
        rw [Bool.false_or] at off
        exact off
/-- hasThis -/
theorem x_331 (J : RJ T N b ks L s) (hcl : c < L.length) (hT : TyI T b ks t ti) (hk : TYk T N t) (ok : ¬ (T t).1 = 10 → ∃ k, kdT T L (some c) false t = some k) : mjF (d + 1) 331 [.ref 97, .int ti] (mjW0 s) = some (some (.int (b2 (hasT (tyT T L (some c) t)))), mjW0 s) := by
  have hmj := mjN_v
  have hn := J.2.2.2.2.2.1
  rw [e_331]
  unfold f_331 b_331_0
  rcases hT with ⟨h10, e⟩ | ⟨h10, i, hi, e⟩
  · rw [e, show mjN = 99999999 + 1 from rfl, L331_S]
    unfold b_331_4 b_331_51
    rw [if_pos (by decide), if_pos (show narrow .boolean (.int (0 : Int32)) = .int 0 by decide)]
    unfold tyT
    rw [if_pos h10]
    rfl
  · have i750 := (List.getElem?_eq_some_iff.mp hi).1
    have l750 := J.2.2.2.1
    have hb := J.b1
    have K := J.2.2.1 i t hi
    obtain ⟨kk, hkk⟩ := ok h10
    have KD : KDk T N t := hk.elim (fun x => absurd x.1 h10) (fun x => x.2)
    obtain ⟨vk, cn, _⟩ := kd_vK hn (fun x e => by cases e; exact hcl) hkk
    have n5 := (vK.n5 hn (vk.cl hn)).2
    have := lq_331 (k := 800 * b + i) J.2.2.2.2.2.2 K KD (by omega) (mjF d) (cntO T 6 (t + 2)) 0 mjN false (by omega) (by omega)
    rw [Bool.false_or] at this
    have et : tyT T L (some c) t = kk + 2 := by
      unfold tyT
      rw [if_neg h10, hkk]
    have eh : hasT (tyT T L (some c) t) = anyR (fun j => decide ((T (t + 2 + 2 * j)).1 = 12)) 0 (cntO T 6 (t + 2)) := by
      rw [et]
      show hTs kk 5 = _
      have i1 := hTs_iff (k := kk) 5
      have i2 := anyR_iff (f := fun j => decide ((T (t + 2 + 2 * j)).1 = 12)) (cntO T 6 (t + 2)) 0
      have both : hTs kk 5 = true ↔ anyR (fun j => decide ((T (t + 2 + 2 * j)).1 = 12)) 0 (cntO T 6 (t + 2)) = true := by
        rw [i1, i2]
        constructor
        · intro ⟨j, h1, h2⟩
          by_cases g : j < nmL L (cK kk)
          · exact ⟨j, by omega, by omega, decide_eq_true ((kd_this hn hcl hkk g).mp h2)⟩
          · rw [vK_z hn vk (by omega) h1] at h2
            omega
        · intro ⟨j, _, h2, h3⟩
          have g : j < nmL L (cK kk) := by omega
          exact ⟨j, by omega, (kd_this hn hcl hkk g).mpr (of_decide_eq_true h3)⟩
      cases a : hTs kk 5 with
      | true => exact (both.mp a).symm
      | false =>
        cases e : anyR (fun j => decide ((T (t + 2 + 2 * j)).1 = 12)) 0 (cntO T 6 (t + 2)) with
        | false => rfl
        | true =>
          rw [both.mpr e] at a
          cases a
    rw [eh, e]
    exact this
theorem L330_S (R : mjR) (n a : Nat) (b e f : Int32) (hp : mjH) : L_330_13 R (n + 1) a b e f hp = b_330_13 R (L_330_13 R n) a b e f hp := rfl
theorem lq_330 (J : RJ T N b ks L s) (O : ORD T b ks L) (P0 : PFm T N L) (hm : m < nMem L) (ok : OKm T L tr m) : ∀ (r i n : Nat) (g : Bool), i + r = (psM L m).length → r < n → L_330_13 (mjF (d + 1)) n 97 (nI (400 * b + m)) (b2 g) (nI i) (mjW0 s) = some (some (.int (b2 (g || anyR (fun i => hasT (pyT T L m i)) i r))), mjW0 s)
  | r, i, 0, g, e, hr => by omega
  | 0, i, n + 1, g, e, hr => by
    have p6 := J.p6 hm
    have hb := J.b1
    have m384 := J.n384
    rw [L330_S]
    unfold b_330_13
    rw [xg_97_39, wa_128 (by omega), p6.1, if_pos (nI_le (by omega) (by omega)), if_pos (b2_nar _)]
    show _ = some (some (Value.int (b2 (g || false))), mjW0 s)
    rw [Bool.or_false]
  | r + 1, i, n + 1, g, e, hr => by
    have p6 := J.p6 hm
    have hb := J.b1
    have m384 := J.n384
    have hi : i < (psM L m).length := by omega
    obtain ⟨M1, hc⟩ := J.mem hm
    obtain ⟨p, hp⟩ : ∃ p, (psM L m)[i]? = some p := ⟨_, List.getElem?_eq_getElem hi⟩
    have v133 : s.1 133 (6 * (400 * b + m) + i) = p.2.2 := (M1.2.2.1.2 i p hp).1
    have ty1 := ((O.1 m hm).2 i p hp).1
    have pf := (P0 m hm).2.2.2.2.2 i p hp
    have okp := (ok.2.2 i hi p hp).1
    have epy : pyT T L m i = tyT T L (some (hmM L m)) p.1 := by
      unfold pyT
      rw [hp]
    rw [L330_S]
    unfold b_330_13 b_330_45 b_330_50
    rw [xg_97_39, wa_128 (by omega), p6.1, if_neg (nI_ge (by omega) (by omega)), nI_1]
    show _ = some (some (Value.int (b2 (g || (hasT (pyT T L m i) || anyR _ (i + 1) r)))), mjW0 s)
    have on : L_330_13 (mjF (d + 1)) n 97 (nI (400 * b + m)) 1 (nI (i + 1)) (mjW0 s) = some (some (.int (b2 true)), mjW0 s) := lq_330 J O P0 hm ok r (i + 1) n true (by omega) (by omega)
    have off := lq_330 J O P0 hm ok r (i + 1) n false (by omega) (by omega)
    cases g with
    | true =>
      rw [if_neg (show ¬ b2 true = 0 by decide)]
      exact on
    | false =>
      rw [if_pos (show b2 false = 0 from rfl), xg_97_44, i6m, wa_133 (by omega), v133, xV_97, x_331 J hc ty1 pf.1 (fun x => by obtain ⟨k, h1, _⟩ := okp x; exact ⟨k, h1⟩), bI_s, Bool.false_or, epy]
      cases hasT (tyT T L (some (hmM L m)) p.1) with
      | true =>
        rw [if_neg (show ¬ b2 true = 0 by decide)]
        exact on
      | false =>
        rw [if_pos (show b2 false = 0 from rfl), Bool.false_or]
        rw [Bool.false_or] at off
        exact off
/-- isHidden -/
theorem x_330 (J : RJ T N b ks L s) (O : ORD T b ks L) (P0 : PFm T N L) (hm : m < nMem L) (ok : OKm T L tr m) : mjF (d + 2) 330 [.ref 97, .int (nI (400 * b + m))] (mjW0 s) = some (some (.int (b2 (hidM T L m))), mjW0 s) := by
  have hmj := mjN_v
  have p6 := J.p6 hm
  have hb := J.b1
  have m384 := J.n384
  obtain ⟨M1, hc⟩ := J.mem hm
  have v126 : s.1 126 (400 * b + m) = (mdM L m).2.2.2.2.2.2.2 := M1.1.2.1
  rw [e_330]
  unfold f_330 b_330_0
  rw [xg_97_37, wa_126 (by omega), v126, xV_97, x_331 J hc (O.1 m hm).1 (P0 m hm).1 (fun x => by obtain ⟨k, h1, _⟩ := ok.1 x; exact ⟨k, h1⟩), bI_s]
  have := lq_330 (d := d) (s := s) J O P0 hm ok (psM L m).length 0 mjN (hasT (tyT T L (some (hmM L m)) (mdM L m).1)) (by omega) (by omega)
  unfold hidM
  rw [← any_RB]
  exact this
end MJA95
end
section
/-! ===== the reference's judge of BLOCKS: VARIABLES; the MEMBER that is asked for ===== -/
/-- VARIABLES that are known, told, the one that is told; no TYPE of theirs is one of the KINDS X to Xe -/
def VB (L : List CD) (b : Nat) (s : mjSt3) (vs : List VE) (td : Nat) (pn : Bool) (nw : Int64 × Nat) (dp X Xe : Nat) : Prop :=
  (∀ e, e ∈ vs → e.2.2.1 < td ∧ s.2.1 158 e.2.2.1 = e.1 ∧ TKr L b s (s.1 159 e.2.2.1) e.2.1 ∧ s.1 160 e.2.2.1 = nI e.2.2.2 ∧ s.1 161 e.2.2.1 = 1 ∧ e.2.2.2 ≤ 30000) ∧
  (∀ v, v < td → s.1 161 v = 0 ∨ ∃ e, e ∈ vs ∧ e.2.2.1 = v) ∧
  vs.Pairwise (fun a c => a.2.2.1 < c.2.2.1) ∧
  (∀ v, v < td + (if pn = true then 1 else 0) → ∀ k, X ≤ k → k < Xe → ¬ s.1 159 v = nI k) ∧
  s.1 97 87 = nI (td + (if pn = true then 1 else 0)) ∧ td + (if pn = true then 1 else 0) ≤ 16 ∧
  (pn = true → s.2.1 158 td = nw.1 ∧ TKr L b s (s.1 159 td) nw.2 ∧ s.1 160 td = nI dp ∧ s.1 161 td = 0)
def vN (o : Option VE) : Int32 := match o with
  | some e => nI e.2.2.1
  | none => -1
section MJA96
variable {T : TT} {d N b k t c n m v : Nat} {ks : List Nat} {L : List CD} {s s' : mjSt3} {vs : List VE} {td dp X Xe : Nat} {pn : Bool} {nw : Int64 × Nat} {key : Int64}
theorem vsK_min : ∀ (vs : List VE) (e : VE), vs.Pairwise (fun a c => a.2.2.1 < c.2.2.1) → e ∈ vs → e.1 = key → (∀ e', e' ∈ vs → e'.1 = key → e.2.2.1 ≤ e'.2.2.1) → vsK vs key = some e
  | [], e, _, h, _, _ => by cases h
  | x :: l, e, hp, h, hk, hm => by
    unfold vsK
    rw [List.find?_cons]
    rw [List.pairwise_cons] at hp
    by_cases q : x.1 = key
    · rw [decide_eq_true q]
      have le := hm x (List.mem_cons_self) q
      rcases List.mem_cons.mp h with e1 | e1
      · rw [e1]
      · have := hp.1 e e1
        omega
    · rw [decide_eq_false q]
      have hl : e ∈ l := (List.mem_cons.mp h).elim (fun e1 => absurd (by rw [← e1]; exact hk) q) id
      exact vsK_min l e hp.2 hl hk (fun e' h' hk' => hm e' (List.mem_cons_of_mem _ h') hk')
theorem vsK_none (h : ∀ e, e ∈ vs → ¬ e.1 = key) : vsK vs key = none := by
  unfold vsK
  rw [List.find?_eq_none]
  exact fun e he => by
    rw [decide_eq_true_iff]
    exact h e he
theorem vsK_mem {e : VE} (h : vsK vs key = some e) : e ∈ vs ∧ e.1 = key := by
  unfold vsK at h
  exact ⟨List.mem_of_find?_eq_some h, of_decide_eq_true (List.find?_some (p := fun e : VE => decide (e.1 = key)) h)⟩
theorem L325_S (R : mjR) (n a : Nat) (e : Int64) (f : Int32) (hp : mjH) : L_325_2 R (n + 1) a e f hp = b_325_2 R (L_325_2 R n) a e f hp := rfl
theorem lq_325 (V : VB L b s vs td pn nw dp X Xe) (R : mjR) : ∀ (r i n : Nat), i + r = td + (if pn = true then 1 else 0) → r < n → (∀ e, e ∈ vs → e.1 = key → i ≤ e.2.2.1) → L_325_2 R n 97 key (nI i) (mjW0 s) = some (some (.int (vN (vsK vs key))), mjW0 s)
  | r, i, 0, h, hr, hi => by omega
  | 0, i, n + 1, h, hr, hi => by
    obtain ⟨v1, v2, v3, v4, v5, v6, v7⟩ := V
    rw [L325_S]
    unfold b_325_2
    rw [xg_97_87, v5, if_pos (nI_le (by omega) (by omega)), vsK_none (fun e he hk => by have := hi e he hk; have := (v1 e he).1; omega)]
    rfl
  | r + 1, i, n + 1, h, hr, hi => by
    have V' := V
    obtain ⟨v1, v2, v3, v4, v5, v6, v7⟩ := V
    rw [L325_S]
    unfold b_325_2 b_325_32
    rw [xg_97_87, v5, if_neg (nI_ge (by omega) (by omega)), xg_97_86, wa_161 (by omega)]
    have nx : (∀ e, e ∈ vs → e.1 = key → ¬ e.2.2.1 = i) → L_325_2 R n 97 key (nI i + 1) (mjW0 s) = some (some (.int (vN (vsK vs key))), mjW0 s) := by
      intro hne
      rw [nI_1]
      exact lq_325 V' R r (i + 1) n (by omega) (by omega) (fun e he hk => by have := hi e he hk; have := hne e he hk; omega)
    by_cases z : s.1 161 i = 0
    · rw [if_pos z]
      exact nx (fun e he _ q => by
        have := (v1 e he).2.2.2.2.1
        rw [q, z] at this
        exact absurd this (by decide))
    · rw [if_neg z, xg_97_83, wa_158 (by omega)]
      have itd : i < td := by
        by_cases g : i < td
        · exact g
        · exfalso
          cases pn with
          | false => rw [if_neg (by decide)] at h; omega
          | true =>
            rw [if_pos rfl] at h
            have e1 : i = td := by omega
            rw [e1] at z
            exact z (v7 rfl).2.2.2
      rcases v2 i itd with z' | ⟨e, he, ei⟩
      · exact absurd z' z
      · have nm := (v1 e he).2.1
        rw [ei] at nm
        rw [nm]
        by_cases q : e.1 = key
        · rw [if_pos ((lg_cmp_eq _ _).mpr q), vsK_min vs e v3 he q (fun e' h' hk' => by have := hi e' h' hk'; omega)]
          show some (some (Value.int (nI i)), mjW0 s) = some (some (Value.int (nI e.2.2.1)), mjW0 s)
          rw [ei]
        · rw [if_neg (fun x => q ((lg_cmp_eq _ _).mp x))]
          refine nx (fun e' h' hk' ei' => ?_)
          have nm' := (v1 e' h').2.1
          rw [ei'] at nm'
          rw [nm] at nm'
          exact q (nm'.trans hk')
/-- known -/
theorem x_325 (V : VB L b s vs td pn nw dp X Xe) (key : Int64) : mjF (d + 1) 325 [.ref 97, .long key] (mjW0 s) = some (some (.int (vN (vsK vs key))), mjW0 s) := by
  rw [e_325]
  unfold f_325 b_325_0
  have := V.2.2.2.2.2.1
  have := mjN_v
  exact lq_325 V (mjF d) (td + (if pn = true then 1 else 0)) 0 mjN (by omega) (by omega) (fun e _ _ => Nat.zero_le _)
theorem vN_m1 (V : VB L b s vs td pn nw dp X Xe) : vN (vsK vs key) = -1 ↔ vsK vs key = none := by
  cases h : vsK vs key with
  | none => exact ⟨fun _ => rfl, fun _ => rfl⟩
  | some e =>
    have h1 := (V.1 e (vsK_mem h).1).1
    have h2 := V.2.2.2.2.2.1
    exact ⟨fun x => absurd x (nI_m1 (by omega)), fun x => by cases x⟩
/-- NAMES of a CLASS's MEMBERS are all different: then the first of the NAME is the one of its sort -/
theorem fmR_om (uq : ∀ m, m < nMem L → omT T L (hmM L m) (nkM T L m) = some m) (hc : c < L.length) (hh : ∀ i, i < mcL L c → hmM L (fmL L c + i) = c ∧ fmL L c + i < nMem L) (isM : Bool) : fmR T L (b2 isM) key c = match omT T L c key with
    | some m => if mSM L m = isM then some m else none
    | none => none := by
  have b22 : ¬ b2 isM = 2 := by cases isM <;> decide
  have bb : ∀ x : Bool, (decide (b2 isM = 2) || decide (b2 x = b2 isM)) = decide (x = isM) := by
    intro x
    rw [decide_eq_false b22, Bool.false_or]
    cases x <;> cases isM <;> rfl
  unfold fmR
  cases ho : omT T L c key with
  | none =>
    have nf : ∀ i, i < mcL L c → ¬ nkM T L (fmL L c + i) = key := by
      intro i hi e
      have := uq _ (hh i hi).2
      rw [(hh i hi).1, e, ho] at this
      cases this
    rw [fnd_none.mpr (fun i hi => by rw [decide_eq_false (nf i hi), Bool.false_and])]
  | some m =>
    obtain ⟨m1, m2, m3⟩ := om_lt ho
    have em : m = fmL L c + (m - fmL L c) := by omega
    have un : ∀ i, i < mcL L c → nkM T L (fmL L c + i) = key → fmL L c + i = m := by
      intro i hi e
      have := uq _ (hh i hi).2
      rw [(hh i hi).1, e, ho] at this
      exact (Option.some.inj this).symm
    dsimp only
    by_cases g : mSM L m = isM
    · rw [if_pos g]
      have : fnd (fun i => decide (nkM T L (fmL L c + i) = key) && (decide (b2 isM = 2) || decide (b2 (mSM L (fmL L c + i)) = b2 isM))) (mcL L c) = some (m - fmL L c) := by
        refine fnd_some.mpr ⟨by omega, ?_, fun j hj => ?_⟩
        · rw [bb, ← em, decide_eq_true m3, decide_eq_true g]
          rfl
        · by_cases e : nkM T L (fmL L c + j) = key
          · have := un j (by omega) e
            omega
          · rw [decide_eq_false e, Bool.false_and]
      rw [this]
      dsimp only
      rw [← em]
    · rw [if_neg g]
      rw [fnd_none.mpr (fun i hi => by
        by_cases e : nkM T L (fmL L c + i) = key
        · rw [bb, un i hi e, decide_eq_false g, Bool.and_false]
        · rw [decide_eq_false e, Bool.false_and])]
/-- findMember: the MEMBER and the OWNERS of the KIND as those of its CLASS -/
theorem x_316m (Ac : ACY T N L) (J : RJ T N b ks L s) (A : ∀ x, x < L.length → ABr T L b s x) (uq : ∀ m, m < nMem L → omT T L (hmM L m) (nkM T L m) = some m) (hv : vK L k) (U : UPv L b s k) (isM : Bool) : ∃ s', mjF (d + 3) 316 [.ref 97, .long key, .int (b2 isM), .int 0] (mjW0 s) = some (some (.int (mR b (memT T L (cK k) key isM))), mjW0 s') ∧ oUp s s' ∧ ∀ m, memT T L (cK k) key isM = some m → m < nMem L ∧ mSM L m = isM ∧ UPv L b s' (seenT T L k m) ∧ vK L (seenT T L k m) ∧ cK (seenT T L k m) = hmM L m := by
  have hn := Ac.1
  have ck := hv.cl hn
  obtain ⟨s', v', j, a1, a2, a3, a4, a5, a6, a7⟩ := x_316 (d := d) (key := key) (w := b2 isM) Ac J A hv U
  obtain ⟨cu1, cu2⟩ := chV_v hn j k v' hv a5
  have c' := cu1.cl hn
  have hh : ∀ c, c < L.length → ∀ i, i < mcL L c → hmM L (fmL L c + i) = c ∧ fmL L c + i < nMem L := by
    intro c hc i hi
    obtain ⟨x1, x2, x3, x4⟩ := J.mc hc
    obtain ⟨E, hE⟩ : ∃ E, L[c]? = some E := ⟨_, List.getElem?_eq_getElem hc⟩
    have ml : mcL L c = E.2.length := by unfold mcL; rw [hE]
    exact ⟨(nu_at hE (by omega)).2.1, by omega⟩
  have j16 : j < 16 := by
    by_cases g : j < 16
    · exact g
    · have := up16 Ac ck
      rw [show j = 16 + (j - 16) by omega, upI_add, this] at cu2
      cases cu2
  have st := chV_st (T := T) hn hv j
  rw [a5] at st
  have fe : ∀ a, a < L.length → fmR T L (b2 isM) key a = match omT T L a key with
    | some m => if mSM L m = isM then some m else none
    | none => none := fun a ha => fmR_om uq ha (hh a ha) isM
  have mem : memT T L (cK k) key isM = fmR T L (b2 isM) key (cK v') := by
    rw [fe _ c']
    unfold memT
    refine anc_find (g := fun a => match omT T L a key with
      | some m => if mSM L m = isM then some m else none
      | none => none) j 16 (cK k) (cK v') (fun i hi y hy => ?_) cu2 j16 ?_
    · obtain ⟨x, x1, x2⟩ := chn_ex hn ck i y hy
      have sx := chV_st (T := T) hn hv i
      rw [x1] at sx
      have := a6 i hi _ sx
      rw [stand_c hn (chn_v hn ck i x x1), x2] at this
      rw [fe y (by rw [← x2]; exact (chn_v hn ck i x x1).cl hn)] at this
      exact this
    · by_cases g : fmR T L (b2 isM) key (cK v') = none
      · refine Or.inr ?_
        unfold upT
        rw [a7 g]
        rfl
      · rw [fe _ c'] at g
        exact Or.inl g
  refine ⟨s', by rw [mem]; exact a1, a2, fun m hm => ?_⟩
  rw [mem] at hm
  obtain ⟨l1, l2⟩ := fmR_lt hm
  obtain ⟨E, hE⟩ : ∃ E, L[cK v']? = some E := ⟨_, List.getElem?_eq_getElem c'⟩
  have ml : mcL L (cK v') = E.2.length := by unfold mcL; rw [hE]
  have em : m = fmL L (cK v') + (m - fmL L (cK v')) := by omega
  obtain ⟨h1, h2⟩ := hh _ c' (m - fmL L (cK v')) (by omega)
  rw [← em] at h1 h2
  have hs : mSM L m = isM := by
    rw [fe _ c'] at hm
    cases ho : omT T L (cK v') key with
    | none => rw [ho] at hm; cases hm
    | some x =>
      rw [ho] at hm
      dsimp only at hm
      by_cases g : mSM L x = isM
      · rw [if_pos g] at hm; rw [← Option.some.inj hm]; exact g
      · rw [if_neg g] at hm; cases hm
  cases hch : chn (nmL L) (abT T L) (cK k) j with
  | none => rw [hch] at st; cases st
  | some v0 =>
    rw [hch] at st
    have ev : v' = stand (nmL L) v0 k := Option.some.inj st
    have ec0 : cK v' = cK v0 := by rw [ev, stand_c hn (chn_v hn ck j v0 hch)]
    have sn : seenT T L k m = v' := by
      unfold seenT
      rw [h1, ec0, vw_chn Ac ck hch j16]
      exact ev.symm
    rw [sn]
    exact ⟨h2, hs, a3, a4, h1.symm⟩
end MJA96
end
section
/-! ===== the reference's judge of BLOCKS: what stays, what it goes by ===== -/
/-- what one order's judging changes, KINDS aside -/
def oV (k : Nat) : mjSt3 → mjSt3 → Prop := offG (fun h j => (h = 97 ∧ (j = 61 ∨ j = 62 ∨ j = 82 ∨ j = 87 ∨ j = 88 ∨ j = 92 ∨ j = 95)) ∨ (h = 145 ∧ j = k) ∨ (155 ≤ h ∧ h ≤ 157) ∨ (159 ≤ h ∧ h ≤ 163) ∨ h = 165 ∨ h = 166) (fun h _ => h = 158)
/-- with KINDS lo to hi -/
def oJd (k lo hi : Nat) : mjSt3 → mjSt3 → Prop := offG (fun h j => (h = 97 ∧ (j = 61 ∨ j = 62 ∨ j = 82 ∨ j = 87 ∨ j = 88 ∨ j = 92 ∨ j = 95)) ∨ (h = 145 ∧ j = k) ∨ (155 ≤ h ∧ h ≤ 157) ∨ (159 ≤ h ∧ h ≤ 163) ∨ h = 165 ∨ h = 166 ∨ (h = 139 ∧ lo ≤ j ∧ j < hi) ∨ (h = 142 ∧ lo ≤ j / 5 ∧ j / 5 < hi)) (fun h _ => h = 158)
/-- all that was judged of heads -/
def BS (T : TT) (N b : Nat) (ks : List Nat) (L : List CD) (tr : Bool) (s : mjSt3) : Prop := SJ T N b ks L tr s ∧ QV T L b (nMem L) s ∧ PLr T L b s
def FX (T : TT) (N b : Nat) (ks : List Nat) (L : List CD) (tr : Bool) : Prop := ACY T N L ∧ ORD T b ks L ∧ PFm T N L ∧ (∀ m, m < nMem L → OKm T L tr m) ∧ (T N).1 = 0
/-- no TYPE or KIND of a head stands from lo to hi -/
def ORB (L : List CD) (lo hi : Nat) : Prop := (∀ m, m < nMem L → ¬ (lo ≤ (mdM L m).1 ∧ (mdM L m).1 < hi) ∧ ∀ (i : Nat) (p : Nat × Nat × Int32), (psM L m)[i]? = some p → ¬ (lo ≤ p.1 ∧ p.1 < hi)) ∧ ∀ c, c < L.length → ¬ (hC L c).2.2.1 = 0 → ¬ (lo ≤ (hC L c).2.2.1 ∧ (hC L c).2.2.1 < hi)
/-- a BLOCK's KINDS: where they stand, their numbers kq to Xe -/
def BK (T : TT) (N b : Nat) (ks : List Nat) (L : List CD) (lo hi kq : Nat) (zk : List Nat) : Prop := kdR T lo hi zk ∧ SBk (800 * b) ks kq zk ∧ ORB L lo hi ∧ hi ≤ N + 1
section MJA97
variable {T : TT} {d N b k t c n m v lo hi kq : Nat} {ks zk : List Nat} {L : List CD} {s s' s'' : mjSt3} {tr : Bool} {ti : Int32} {P : Nat → Prop}
theorem oUp.V (o : oUp s s') : oV k s s' := offG.mono o (fun h j x => by omega) (fun _ _ x => x.elim)
theorem oT.V (o : oT n s s') : oV k s s' := offG.mono o (fun h j x => by omega) (fun _ _ x => x.elim)
theorem o61.V (o : o61 s s') : oV k s s' := offG.mono o (fun h j x => by omega) (fun _ _ x => x.elim)
theorem oV.J2 (o : oV k s s') : oJd k lo hi s s' := offG.mono o (fun h j z => by
  rcases z with z | z | z | z | z | z
  · exact Or.inl z
  · exact Or.inr (Or.inl z)
  · exact Or.inr (Or.inr (Or.inl z))
  · exact Or.inr (Or.inr (Or.inr (Or.inl z)))
  · exact Or.inr (Or.inr (Or.inr (Or.inr (Or.inl z))))
  · exact Or.inr (Or.inr (Or.inr (Or.inr (Or.inr (Or.inl z)))))) (fun _ _ x => x)
theorem oTy.J2 (o : oTy P s s') (h : ∀ x, P x → lo ≤ x ∧ x < hi) : oJd k lo hi s s' := offG.mono o (fun x j z => by
  rcases z with z | ⟨z, y⟩ | ⟨z, y⟩
  · exact Or.inl ⟨z.1, by omega⟩
  · have := h _ y
    omega
  · have := h _ y
    omega) (fun _ _ x => x.elim)
theorem oV.r (o : oV k s s') {h : Nat} (hh : ¬ (h = 97 ∨ h = 145 ∨ (155 ≤ h ∧ h ≤ 157) ∨ (159 ≤ h ∧ h ≤ 163) ∨ h = 165 ∨ h = 166)) : s'.1 h = s.1 h := funext fun j => o.1 h j (by omega)
theorem oV.f (o : oV k s s') {j : Nat} (hh : ¬ (j = 61 ∨ j = 62 ∨ j = 82 ∨ j = 87 ∨ j = 88 ∨ j = 92 ∨ j = 95)) : s'.1 97 j = s.1 97 j := o.1 97 j (by omega)
theorem oV.l (o : oV k s s') {h : Nat} (hh : ¬ h = 158) : s'.2.1 h = s.2.1 h := funext fun j => o.2.1 h j hh
theorem TMr.cg2 (K : TMr T L b s m) (h1 : s'.1 126 = s.1 126) (h2 : s'.1 133 = s.1 133) (h3 : s'.1 138 = s.1 138) (h4 : s'.1 139 = s.1 139) (h5 : s'.1 142 = s.1 142) : TMr T L b s' m := ⟨by rw [h1]; exact K.1.cg h3 h4 h5, fun i hi => by rw [h2]; exact (K.2 i hi).cg h3 h4 h5⟩
theorem oV.S (o : oV k s s') (B : BS T N b ks L tr s) : BS T N b ks L tr s' := by
  obtain ⟨⟨J, W, I, t⟩, Q, P⟩ := B
  refine ⟨⟨J.off2 (o.f (by omega)) (fun x hx => o.r (by omega)) (fun x hx => o.l hx), ?_, ?_, by rw [o.f (by omega)]; exact t⟩, ⟨fun x hx => (Q.1 x hx).cg2 (o.r (by omega)) (o.r (by omega)) (o.r (by omega)) (o.r (by omega)) (o.r (by omega)), fun x hx => (Q.2 x hx).cg (o.r (by omega)) (o.r (by omega)) (o.r (by omega)) (o.r (by omega))⟩, ?_⟩
  · unfold WIT; rw [o.r (by omega)]; exact W
  · unfold IRr; rw [o.r (h := 117) (by omega), o.r (h := 118) (by omega)]; exact I
  · unfold PLr; rw [o.r (h := 109) (by omega), o.r (h := 110) (by omega), o.r (h := 130) (by omega), o.r (h := 184) (by omega)]; exact P
/-- a KIND of the BLOCK -/
theorem BK.ty (B : BK T N b ks L lo hi kq zk) (h0 : (T N).1 = 0) {X : Nat} (h1 : kq ≤ X) (h2 : X < kq + zk.length) : ∃ t, zk[X - kq]? = some t ∧ TyI T b ks t (nI X) ∧ TYk T N t ∧ ¬ (T t).1 = 10 ∧ lo ≤ t ∧ t < hi ∧ ks[X - 800 * b]? = some t ∧ 800 * b ≤ X := by
  obtain ⟨t, ht⟩ : ∃ t, zk[X - kq]? = some t := ⟨_, List.getElem?_eq_getElem (show X - kq < zk.length by omega)⟩
  obtain ⟨k1, k2, c', k3⟩ := B.1 t (List.mem_of_getElem? ht)
  have kk := B.2.1.2 (X - kq) t ht
  have b0 := B.2.1.1
  have hN := B.2.2.2
  have n10 : ¬ (T t).1 = 10 := by
    unfold pKind at k3
    by_cases g : (T t).1 = 2
    · rw [g]; decide
    · rw [if_neg g] at k3; cases k3
  have kk' : ks[X - 800 * b]? = some t := by rw [show X - 800 * b = kq - 800 * b + (X - kq) by omega]; exact kk
  refine ⟨t, ht, Or.inr ⟨n10, X - 800 * b, kk', by rw [show 800 * b + (X - 800 * b) = X by omega]⟩, Or.inr ⟨n10, (pKind_ok h0 (by omega) k3).1⟩, n10, k1, k2, kk', by omega⟩
/-- judging a KIND of the BLOCK leaves the heads -/
theorem BS.ty (F : FX T N b ks L tr) (B : BK T N b ks L lo hi kq zk) (S : BS T N b ks L tr s) (h : TyI T b ks t ti) (h1 : lo ≤ t) (h2 : t < hi) (o : oTy (fun x => ti = nI x ∧ x < 1600) s s') : BS T N b ks L tr s' := by
  obtain ⟨S0, Q, P⟩ := S
  have J := S0.1
  obtain ⟨O1, O2, O3⟩ := F.2.1
  have out := B.2.2.1
  refine ⟨S0.ty o, ⟨fun m hm => ⟨?_, fun i hi => ?_⟩, fun c hc => keepA J h hc (fun z e => out.2 c hc z ⟨by omega, by omega⟩) o (Q.2 c hc)⟩, ?_⟩
  · obtain ⟨M1, _⟩ := J.mem hm
    have k1 := (Q.1 m hm).1
    rw [o.r (by decide) (by decide) (by decide)]
    rw [show s.1 126 (400 * b + m) = (mdM L m).2.2.2.2.2.2.2 from M1.1.2.1] at k1 ⊢
    exact keepT J h (O1 m hm).1 (fun e => (out.1 m hm).1 ⟨by omega, by omega⟩) o k1
  · obtain ⟨M1, _⟩ := J.mem hm
    obtain ⟨p, hp⟩ : ∃ p, (psM L m)[i]? = some p := ⟨_, List.getElem?_eq_getElem hi⟩
    have k1 := (Q.1 m hm).2 i hi
    rw [o.r (by decide) (by decide) (by decide)]
    rw [show s.1 133 (6 * (400 * b + m) + i) = p.2.2 from (M1.2.2.1.2 i p hp).1] at k1 ⊢
    exact keepT J h ((O1 m hm).2 i p hp).1 (fun e => (out.1 m hm).2 i p hp ⟨by omega, by omega⟩) o k1
  · unfold PLr; rw [o.r (h := 109) (by decide) (by decide) (by decide), o.r (h := 110) (by decide) (by decide) (by decide), o.r (h := 130) (by decide) (by decide) (by decide), o.r (h := 184) (by decide) (by decide) (by decide)]; exact P
/-- TYPES that wait -/
def TSs (L : List CD) (b : Nat) (s : mjSt3) : List (Nat × Bool) → Prop
  | [] => True
  | e :: l => TY1 L b s l.length e.1 e.2 ∧ TSs L b s l
/-- calls that wait -/
def PDs (L : List CD) (b : Nat) (s : mjSt3) : List (Nat × Nat) → List (Nat × Nat) → Prop
  | [], [] => True
  | p :: pd, e :: l => (s.1 162 pd.length = nI (400 * b + p.1) ∧ p.1 < nMem L ∧ vK L p.2 ∧ cK p.2 = hmM L p.1 ∧ (∀ i, i < nmL L (cK p.2) → s.1 163 (5 * pd.length + i) = oR (oK p.2 i)) ∧ (psM L p.1).length = e.1) ∧ PDs L b s pd l
  | _, _ => False
theorem TO1.cg (hn : HN T N L) {p t : Nat} (h : TO1 L s p t) (e : ∀ i, i < 5 → s'.1 157 (5 * p + i) = s.1 157 (5 * p + i)) : TO1 L s' p t := by
  match t, h with
  | 0, _ => trivial
  | 1, _ => trivial
  | k + 2, ⟨v, h⟩ =>
    have n5 := (vK.n5 hn (v.cl hn)).2
    exact ⟨v, fun i hi => by rw [e i (by omega)]; exact h i hi⟩
theorem TY1.cg (hn : HN T N L) {p t : Nat} {al : Bool} (h : TY1 L b s p t al) (e1 : s'.1 155 p = s.1 155 p) (e2 : s'.1 156 p = s.1 156 p) (e3 : ∀ i, i < 5 → s'.1 157 (5 * p + i) = s.1 157 (5 * p + i)) : TY1 L b s' p t al := ⟨by rw [e1]; exact h.1, by rw [e2]; exact h.2.1, h.2.2.cg hn e3⟩
theorem TSs.cg (hn : HN T N L) : ∀ (l : List (Nat × Bool)), TSs L b s l → (∀ p, p < l.length → s'.1 155 p = s.1 155 p ∧ s'.1 156 p = s.1 156 p ∧ ∀ i, i < 5 → s'.1 157 (5 * p + i) = s.1 157 (5 * p + i)) → TSs L b s' l
  | [], _, _ => trivial
  | e :: l, h, w => by
    obtain ⟨w1, w2, w3⟩ := w l.length (Nat.lt_succ_self _)
    exact ⟨h.1.cg hn w1 w2 w3, TSs.cg hn l h.2 (fun p hp => w p (by rw [List.length_cons]; omega))⟩
theorem TSs.keepT (hn : HN T N L) {l : List (Nat × Bool)} (h : TSs L b s l) (o : oT n s s') (hl : l.length ≤ n) : TSs L b s' l := TSs.cg hn l h (fun p hp => ⟨o.1 155 p (by omega), o.1 156 p (by omega), fun i hi => o.1 157 _ (by omega)⟩)
theorem TSs.same {l : List (Nat × Bool)} (hn : HN T N L) (h : TSs L b s l) (e1 : s'.1 155 = s.1 155) (e2 : s'.1 156 = s.1 156) (e3 : s'.1 157 = s.1 157) : TSs L b s' l := TSs.cg hn l h (fun p _ => ⟨by rw [e1], by rw [e2], fun i _ => by rw [e3]⟩)
theorem PDs.cg (hn : HN T N L) : ∀ (l e : List (Nat × Nat)), PDs L b s l e → (∀ p, p < l.length → s'.1 162 p = s.1 162 p ∧ ∀ i, i < 5 → s'.1 163 (5 * p + i) = s.1 163 (5 * p + i)) → PDs L b s' l e
  | [], [], _, _ => trivial
  | [], _ :: _, h, _ => h.elim
  | _ :: _, [], h, _ => h.elim
  | p :: pd, e :: l, ⟨⟨h1, h2, h3, h4, h5, h6⟩, h7⟩, w => by
    obtain ⟨w1, w2⟩ := w pd.length (Nat.lt_succ_self _)
    have n5 := (vK.n5 hn (h3.cl hn)).2
    exact ⟨⟨by rw [w1]; exact h1, h2, h3, h4, fun i hi => by rw [w2 i (by omega)]; exact h5 i hi, h6⟩, PDs.cg hn pd l h7 (fun p hp => w p (by rw [List.length_cons]; omega))⟩
theorem PDs.same (hn : HN T N L) {l e : List (Nat × Nat)} (h : PDs L b s l e) (e1 : s'.1 162 = s.1 162) (e2 : s'.1 163 = s.1 163) : PDs L b s' l e := PDs.cg hn l e h (fun p _ => ⟨by rw [e1], fun i _ => by rw [e2]⟩)
end MJA97
end
section
/-! ===== the reference judges one order: what the judge goes by ===== -/
/-- what judging leaves of everything but TYPES that wait from n on -/
def oQ (n : Nat) : mjSt3 → mjSt3 → Prop := offG (fun h j => (h = 97 ∧ (j = 61 ∨ j = 62 ∨ j = 82 ∨ j = 95)) ∨ ((h = 155 ∨ h = 156) ∧ n ≤ j) ∨ (h = 157 ∧ 5 * n ≤ j) ∨ h = 165 ∨ h = 166) (fun _ _ => False)
def BR (L : List CD) (b : Nat) (s : mjSt3) (j : JS) (x : WS) (Xe : Nat) : Prop :=
  (s.1 97 82 = nI j.1.length ∧ TSs L b s j.1 ∧ j.1.length = x.1.2.1 ∧ j.1.length ≤ 60) ∧
  (s.1 97 92 = nI j.2.1.length ∧ PDs L b s j.2.1 x.1.2.2.1 ∧ j.2.1.length ≤ 20) ∧
  (VB L b s j.2.2.1 j.2.2.2.1 x.2.2.2.1 j.2.2.2.2.2.1 j.2.2.2.2.1 x.1.1 Xe ∧ j.2.2.2.1 = x.2.1) ∧
  (s.1 97 88 = nI j.2.2.2.2.1 ∧ j.2.2.2.2.1 = x.2.2.2.2) ∧
  s.1 145 (5000 * b + x.2.2.1) = nI j.2.2.2.2.2.2.1
/-- in which CLASS and METHOD -/
def NW (E : EV) (b : Nat) (mm : Option Nat) (s : mjSt3) : Prop := s.1 97 132 = cR b E.2.2.2.2.1 ∧ s.1 97 133 = mR b mm ∧ (∀ c, E.2.2.2.2.1 = some c → c < E.2.1.length) ∧ (∀ m, mm = some m → m < nMem E.2.1 ∧ E.2.2.2.2.2.1 = tyM E.1 E.2.1 m) ∧ (mm = none → E.2.2.2.2.2.1 = 0)
/-- what the judged order holds -/
def nA (E : EV) (r : Row) (j : JS) : Int32 := if r.1 = 6 ∨ r.1 = 15 then vN (vsK j.2.2.1 r.2.2.2.2)
  else if r.1 = 10 ∨ r.1 = 16 then (match j.1 with
    | t :: _ => (match prtE E t r.2.2.2.2 false with
      | some p => nI (numM E.1 E.2.1 p.1)
      | none => 0)
    | [] => 0)
  else if r.1 = 17 ∨ r.1 = 18 then nI j.2.2.2.2.2.2.1 else r.2.2.1
/-- one order is judged so -/
def gJ (E : EV) (N b : Nat) (ks : List Nat) (i kq Xe : Nat) (r : Row) (j : JS) (x : WS) (s : mjSt3) (u : mjU) : Prop := ∃ s', u = some (none, mjW0 s') ∧ oJd (5000 * b + i) kq Xe s s' ∧ (match jrow E r j with
    | none => bR0 s'
    | some (j', _) => gR0 s' ∧ BS E.1 N b ks E.2.1 E.2.2.1 s' ∧ BR E.2.1 b s' j' (nxW r i x) Xe ∧ s'.1 145 (5000 * b + i) = nA E r j ∧ (r.1 = 7 ∨ r.1 = 14 → ∀ k, kdE E r.2.2.1 = some k → TKr E.2.1 b s' r.2.2.1 (k + 2)))
section MJA98a
variable {n : Nat} {s s' : mjSt3}
theorem oQ.r (o : oQ n s s') {h : Nat} (hh : ¬ (h = 97 ∨ (155 ≤ h ∧ h ≤ 157) ∨ h = 165 ∨ h = 166)) : s'.1 h = s.1 h := funext fun j => o.1 h j (by omega)
end MJA98a
section MJA98
variable {T : TT} {d N b k t c n m v kq Xe i : Nat} {ks : List Nat} {L : List CD} {s s' s'' : mjSt3} {tr : Bool} {E : EV} {j : JS} {x : WS} {r : Row} {u : mjU}
theorem oUp.Q2 (o : oUp s s') : oQ n s s' := offG.mono o (fun h j x => by omega) (fun _ _ x => x)
theorem oT.Q2 (o : oT n s s') (h : m ≤ n) : oQ m s s' := offG.mono o (fun h j x => by omega) (fun _ _ x => x)
theorem o61.Q2 (o : o61 s s') : oQ n s s' := offG.mono o (fun h j x => by omega) (fun _ _ x => x)
theorem oQ.mono (o : oQ n s s') (h : m ≤ n) : oQ m s s' := offG.mono o (fun h j x => by omega) (fun _ _ x => x)
theorem oQ.V (o : oQ n s s') : oV k s s' := offG.mono o (fun h j x => by omega) (fun _ _ x => x.elim)
theorem oQ.f (o : oQ n s s') {j : Nat} (hh : ¬ (j = 61 ∨ j = 62 ∨ j = 82 ∨ j = 95)) : s'.1 97 j = s.1 97 j := o.1 97 j (by omega)
theorem oQ.l (o : oQ n s s') : s'.2.1 = s.2.1 := funext fun x => funext fun j => o.2.1 x j (fun e => e)
theorem oQ.w82 {a : Int32} : oQ n s (uI s 97 (upd (s.1 97) 82 a)) := offG.w (Or.inl ⟨rfl, by omega⟩)
theorem TSs.keepQ (hn : HN T N L) {l : List (Nat × Bool)} (h : TSs L b s l) (o : oQ n s s') (hl : l.length ≤ n) : TSs L b s' l := TSs.cg hn l h (fun p hp => ⟨o.1 155 p (by omega), o.1 156 p (by omega), fun i hi => o.1 157 _ (by omega)⟩)
theorem VB.same {vs : List VE} {td dp X : Nat} {pn : Bool} {nw : Int64 × Nat} (V : VB L b s vs td pn nw dp X Xe) (h0 : s'.2.1 158 = s.2.1 158) (h1 : s'.1 159 = s.1 159) (h2 : s'.1 160 = s.1 160) (h3 : s'.1 161 = s.1 161) (h4 : s'.1 97 87 = s.1 97 87) (k1 : s'.1 138 = s.1 138) (k2 : s'.1 139 = s.1 139) (k3 : s'.1 142 = s.1 142) : VB L b s' vs td pn nw dp X Xe := by
  obtain ⟨v1, v2, v3, v4, v5, v6, v7⟩ := V
  refine ⟨fun e he => ?_, ?_, v3, ?_, ?_, v6, fun hp => ?_⟩
  · obtain ⟨a1, a2, a3, a4, a5, a6⟩ := v1 e he
    exact ⟨a1, by rw [h0]; exact a2, by rw [h1]; exact a3.cg k1 k2 k3, by rw [h2]; exact a4, by rw [h3]; exact a5, a6⟩
  · rw [h3]; exact v2
  · rw [h1]; exact v4
  · rw [h4]; exact v5
  · obtain ⟨a1, a2, a3, a4⟩ := v7 hp
    exact ⟨by rw [h0]; exact a1, by rw [h1]; exact a2.cg k1 k2 k3, by rw [h2]; exact a3, by rw [h3]; exact a4⟩
/-- other TYPES wait, all else is kept -/
theorem BR.mkT (hn : HN T N L) (R : BR L b s j x Xe) (o : oQ n s s') {st : List (Nat × Bool)} (hst : TSs L b s' st) (h82 : s'.1 97 82 = nI st.length) {h' : Nat} (hl : st.length = h') (h60 : st.length ≤ 60) {rs : List Nat} {q' : Nat} : BR L b s' (st, j.2.1, j.2.2.1, j.2.2.2.1, j.2.2.2.2.1, j.2.2.2.2.2.1, j.2.2.2.2.2.2.1, rs) ((x.1.1, h', x.1.2.2.1, q'), x.2) Xe := by
  obtain ⟨_, ⟨c1, c2, c3⟩, ⟨v1, v2⟩, ⟨d1, d2⟩, l⟩ := R
  exact ⟨⟨h82, hst, hl, h60⟩, ⟨by rw [o.f (by omega)]; exact c1, PDs.same hn c2 (o.r (by omega)) (o.r (by omega)), c3⟩, ⟨v1.same (by rw [o.l]) (o.r (by omega)) (o.r (by omega)) (o.r (by omega)) (o.f (by omega)) (o.r (by omega)) (o.r (by omega)) (o.r (by omega)), v2⟩, ⟨by rw [o.f (by omega)]; exact d1, d2⟩, by rw [o.r (by omega)]; exact l⟩
/-- an order's own number is written -/
theorem BR.set (R : BR L b s j x Xe) (hx : ¬ x.2.2.1 = i) {a : Int32} (hn : HN T N L) : BR L b (uI s 145 (upd (s.1 145) (5000 * b + i) a)) j x Xe := by
  obtain ⟨⟨t1, t2, t3, t4⟩, ⟨c1, c2, c3⟩, ⟨v1, v2⟩, ⟨d1, d2⟩, l⟩ := R
  have r1 : ∀ h, ¬ h = 145 → (uI s 145 (upd (s.1 145) (5000 * b + i) a)).1 h = s.1 h := fun h e => uI_ne _ _ _ _ e
  refine ⟨⟨by rw [r1 97 (by decide)]; exact t1, TSs.same hn t2 (r1 _ (by decide)) (r1 _ (by decide)) (r1 _ (by decide)), t3, t4⟩, ⟨by rw [r1 97 (by decide)]; exact c1, PDs.same hn c2 (r1 _ (by decide)) (r1 _ (by decide)), c3⟩, ⟨v1.same rfl (r1 _ (by decide)) (r1 _ (by decide)) (r1 _ (by decide)) (by rw [r1 97 (by decide)]) (r1 _ (by decide)) (r1 _ (by decide)) (r1 _ (by decide)), v2⟩, ⟨by rw [r1 97 (by decide)]; exact d1, d2⟩, ?_⟩
  rw [uI_same, upd_g, if_neg (by omega)]
  exact l
theorem oV.set {a : Int32} : oV k s (uI s 145 (upd (s.1 145) k a)) := offG.w (Or.inr (Or.inl ⟨rfl, rfl⟩))
/-- judged well, no KIND -/
theorem gJ.ok {j' : JS} {l : List Ins} (hj : jrow E r j = some (j', l)) (S : BS E.1 N b ks E.2.1 E.2.2.1 s) (hu : u = some (none, mjW0 s')) (o : oV (5000 * b + i) s s') (g : gR0 s') (R : BR E.2.1 b s' j' (nxW r i x) Xe) (ha : s'.1 145 (5000 * b + i) = nA E r j) (h7 : ¬ r.1 = 7) (h14 : ¬ r.1 = 14) : gJ E N b ks i kq Xe r j x s u := ⟨s', hu, o.J2, by
  rw [hj]
  exact ⟨g, o.S S, R, ha, fun h => (h.elim h7 h14).elim⟩⟩
/-- judged bad -/
theorem gJ.bad (hj : jrow E r j = none) (hu : u = some (none, mjW0 s')) (o : oV (5000 * b + i) s s') (g : bR0 s') : gJ E N b ks i kq Xe r j x s u := ⟨s', hu, o.J2, by
  rw [hj]
  exact g⟩
theorem nA_o (h1 : ¬ r.1 = 6) (h2 : ¬ r.1 = 15) (h3 : ¬ r.1 = 10) (h4 : ¬ r.1 = 16) (h5 : ¬ r.1 = 17) (h6 : ¬ r.1 = 18) : nA E r j = r.2.2.1 := by
  unfold nA
  rw [if_neg (fun h => h.elim h1 h2), if_neg (fun h => h.elim h3 h4), if_neg (fun h => h.elim h5 h6)]
/-- fail, from any state -/
theorem x_fail (g : GR s) {a : Int32} (ha : ¬ a ≤ 0) (p : Int32) : ∃ s', mjF (d + 1) 268 [.ref 97, .int a, .int p] (mjW0 s) = some (none, mjW0 s') ∧ o61 s s' ∧ bR0 s' := x_268 g ha p
end MJA98
end
section
/-! ===== the reference judges one order: values ===== -/
section MJA99
variable {T : TT} {d N b k t c n m v kq Xe i : Nat} {ks : List Nat} {L : List CD} {s s' s'' : mjSt3} {tr : Bool} {E : EV} {j : JS} {x : WS} {r : Row} {u : mjU} {mm : Option Nat}
/-- other TYPES wait, what is left of = is this order -/
theorem BR.mkL (hn : HN T N L) (R : BR L b s j x Xe) (o : oQ n s s') {st : List (Nat × Bool)} (hst : TSs L b s' st) (h82 : s'.1 97 82 = nI st.length) {h' : Nat} (hl : st.length = h') (h60 : st.length ≤ 60) {rs : List Nat} {q' lf lx : Nat} (hlf : s'.1 145 (5000 * b + lx) = nI lf) : BR L b s' (st, j.2.1, j.2.2.1, j.2.2.2.1, j.2.2.2.2.1, j.2.2.2.2.2.1, lf, rs) ((x.1.1, h', x.1.2.2.1, q'), x.2.1, lx, x.2.2.2) Xe := by
  obtain ⟨_, ⟨c1, c2, c3⟩, ⟨v1, v2⟩, ⟨d1, d2⟩, l⟩ := R
  exact ⟨⟨h82, hst, hl, h60⟩, ⟨by rw [o.f (by omega)]; exact c1, PDs.same hn c2 (o.r (by omega)) (o.r (by omega)), c3⟩, ⟨v1.same (by rw [o.l]) (o.r (by omega)) (o.r (by omega)) (o.r (by omega)) (o.f (by omega)) (o.r (by omega)) (o.r (by omega)) (o.r (by omega)), v2⟩, ⟨by rw [o.f (by omega)]; exact d1, d2⟩, hlf⟩
theorem oQ.g (o : oT n s s') (g : gR0 s) : gR0 s' := by
  show s'.1 97 61 = 0
  rw [o.1 97 61 (by omega)]
  exact g
theorem oUp.g (o : oUp s s') (g : gR0 s) : gR0 s' := by
  show s'.1 97 61 = 0
  rw [o.1 97 61 (by omega)]
  exact g
theorem tyC_0 (hn : HN T N L) (hb : b ≤ 1) {p : Nat} (h : TO1 L s p t) : tyC b t = -1 ↔ t = 0 := by
  match t, h with
  | 0, _ => exact ⟨fun _ => rfl, fun _ => rfl⟩
  | 1, _ => exact ⟨fun x => absurd (show (-2 : Int32) = -1 from x) (by decide), fun x => by cases x⟩
  | k + 2, ⟨v, _⟩ =>
    have := v.cl hn
    have := hn.1
    exact ⟨fun x => absurd x (nI_m1 (by omega)), fun x => by cases x⟩
theorem j_3 (S : BS E.1 N b ks E.2.1 E.2.2.1 s) (g : gR0 s) (R : BR E.2.1 b s j x Xe) (row : Rw s (5000 * b + i) r) (hi : i < 5000) (hr : r.1 = 3 ∨ r.1 = 4) (ok : okEr 60 20 120 r x.1) : gJ E N b ks i kq Xe r j x s (mjF (d + 7) 323 [.ref 97, .int (nI (5000 * b + i))] (mjW0 s)) := by
  have J := S.1.1
  have hn := J.2.2.2.2.2.1
  have hb := J.b1
  have hx : nxW r i x = ((x.1.1, x.1.2.1 + 1, x.1.2.2.1, x.1.2.2.2 + 1), x.2) := by
    rw [nxW_E ok.1]
    show (hxE r x.1, x.2) = _
    unfold hxE
    rw [if_pos (by rcases hr with h | h <;> · rw [h]; decide)]
  have h60 : x.1.2.1 + 1 ≤ 60 := by
    have := ok.2.2.1
    unfold hxE at this
    rw [if_pos (by rcases hr with h | h <;> · rw [h]; decide)] at this
    exact this
  have hl := R.1.2.2.1
  have h0 := R.1.2.2.2
  have h7 : ¬ r.1 = 7 ∧ ¬ r.1 = 14 ∧ ¬ r.1 = 6 ∧ ¬ r.1 = 15 ∧ ¬ r.1 = 10 ∧ ¬ r.1 = 16 ∧ ¬ r.1 = 17 ∧ ¬ r.1 = 18 := by rcases hr with h | h <;> · rw [h]; decide
  have fin : ∀ (ty : Nat) (ti : Int32) (l : List Ins), ti = tyC b ty → TO1 E.2.1 s j.1.length ty → (∀ z : mjSt3, TO1 E.2.1 z j.1.length ty) → jrow E r j = some (jpush j ty false (ty :: jRS j), l) → mjF (d + 7) 323 [.ref 97, .int (nI (5000 * b + i))] (mjW0 s) = bN (mjF (d + 6) 324 [.ref 97, .int ti] (mjW0 s)) (fun hp4 => some (none, hp4)) → gJ E N b ks i kq Xe r j x s (mjF (d + 7) 323 [.ref 97, .int (nI (5000 * b + i))] (mjW0 s)) := by
    intro ty ti l e1 _ e2 hj pre
    obtain ⟨s1, a1, a2, a3, a4, a5⟩ := x_324 (d := d + 5) (n := j.1.length) (by omega) R.1.1 ti
    rw [a1, bN_s] at pre
    refine gJ.ok hj S pre (oT.V a2) (oQ.g a2 g) ?_ ?_ h7.1 h7.2.1
    · rw [hx]
      exact BR.mkT hn R (a2.Q2 (Nat.le_refl _)) (st := (ty, false) :: j.1) ⟨⟨by rw [a3, e1], a4, e2 s1⟩, TSs.keepT hn R.1.2.1 a2 (Nat.le_refl _)⟩ a5 (by rw [List.length_cons, hl]) (by rw [List.length_cons]; omega)
    · rw [a2.r (by omega), row.2.2.1, nA_o h7.2.2.1 h7.2.2.2.1 h7.2.2.2.2.1 h7.2.2.2.2.2.1 h7.2.2.2.2.2.2.1 h7.2.2.2.2.2.2.2]
  rcases hr with hr | hr
  · refine fin 0 (-1) _ rfl trivial (fun _ => trivial) (by unfold jrow; rw [if_pos hr]) ?_
    rw [e_323]
    unfold f_323 b_323_0
    rw [xg_97_54, wa_143 (by omega), row.1, hr, if_pos rfl, xV_97]
  · refine fin 1 (-2) _ rfl trivial (fun _ => trivial) (by unfold jrow; rw [hr, if_neg (by decide), if_pos rfl]) ?_
    rw [e_323]
    unfold f_323 b_323_0
    rw [xg_97_54, wa_143 (by omega), row.1, hr, if_neg (by decide), if_pos rfl, xV_97]
theorem L323a_S (R : mjR) (n a : Nat) (b : Int32) (hp : mjH) : L_323_181 R (n + 1) a b hp = b_323_181 R (L_323_181 R n) a b hp := rfl
theorem lq_323a (R : mjR) (h200 : n < 200) : ∀ (r i m : Nat) (s : mjSt3), i + r = 5 → r < m → s.1 97 82 = nI (n + 1) → (∀ x, x < i → s.1 157 (5 * n + x) = nI x) → ∃ s', L_323_181 R m 97 (nI i) (mjW0 s) = some (none, mjW0 s') ∧ oT n s s' ∧ s'.1 155 = s.1 155 ∧ s'.1 97 = s.1 97 ∧ s'.1 156 n = 1 ∧ ∀ x, x < 5 → s'.1 157 (5 * n + x) = nI x
  | r, i, 0, s, e, hr, h82, w => by omega
  | 0, i, m + 1, s, e, hr, h82, w => by
    obtain ⟨z, hz⟩ : ∃ z, z = uI s 156 (upd (s.1 156) n 1) := ⟨_, rfl⟩
    have r1 : ∀ h, ¬ h = 156 → z.1 h = s.1 h := fun h e => by rw [hz]; exact uI_ne _ _ _ _ e
    refine ⟨z, ?_, by rw [hz]; exact offG.w (Or.inr (Or.inl ⟨Or.inr rfl, rfl⟩)), r1 _ (by decide), r1 _ (by decide), by rw [hz, uI_same, upd_g, if_pos rfl], fun x hx => by rw [r1 157 (by decide)]; exact w x (by omega)⟩
    rw [L323a_S]
    unfold b_323_181
    rw [if_pos (show (5 : Int32) ≤ nI i from nI_le (a := 5) (by omega) (by omega)), xg_97_80, xg_97_82, h82, nI_pred, ws_156 h200, ← hz]
  | r + 1, i, m + 1, s, e, hr, h82, w => by
    obtain ⟨z, hz⟩ : ∃ z, z = uI s 157 (upd (s.1 157) (5 * n + i) (nI i)) := ⟨_, rfl⟩
    have r1 : ∀ h, ¬ h = 157 → z.1 h = s.1 h := fun h e => by rw [hz]; exact uI_ne _ _ _ _ e
    obtain ⟨s', b1, b2', b3, b4, b5, b6⟩ := lq_323a R h200 r (i + 1) m z (by omega) (by omega) (by rw [r1 97 (by decide)]; exact h82) (fun y hy => by
      rw [hz, uI_same, upd_g]
      by_cases e' : y = i
      · rw [if_pos (by rw [e']), e']
      · rw [if_neg (by omega)]; exact w y (by omega))
    refine ⟨s', ?_, (show oT n s z by rw [hz]; exact offG.w (Or.inr (Or.inr ⟨rfl, by omega, by omega⟩))).tr b2', by rw [b3, r1 155 (by decide)], by rw [b4, r1 97 (by decide)], b5, b6⟩
    rw [← b1, L323a_S]
    unfold b_323_181
    rw [if_neg (show ¬ (5 : Int32) ≤ nI i from nI_ge (b := 5) (by omega) (by decide)), xg_97_81, xg_97_82, h82, i5s, ws_157 (by omega), ← hz, nI_1]
theorem j_5 (S : BS E.1 N b ks E.2.1 E.2.2.1 s) (g : gR0 s) (W : NW E b mm s) (R : BR E.2.1 b s j x Xe) (row : Rw s (5000 * b + i) r) (hi : i < 5000) (hr : r.1 = 5) (ok : okEr 60 20 120 r x.1) : gJ E N b ks i kq Xe r j x s (mjF (d + 7) 323 [.ref 97, .int (nI (5000 * b + i))] (mjW0 s)) := by
  have hmj := mjN_v
  have J := S.1.1
  have hn := J.2.2.2.2.2.1
  have hb := J.b1
  have h16 := J.len
  have hx : nxW r i x = ((x.1.1, x.1.2.1 + 1, x.1.2.2.1, x.1.2.2.2 + 1), x.2) := by
    rw [nxW_E ok.1]
    show (hxE r x.1, x.2) = _
    unfold hxE
    rw [if_pos (by rw [hr]; decide)]
  have h60 : x.1.2.1 + 1 ≤ 60 := by
    have := ok.2.2.1
    unfold hxE at this
    rw [if_pos (by rw [hr]; decide)] at this
    exact this
  have hl := R.1.2.2.1
  have pre : mjF (d + 7) 323 [.ref 97, .int (nI (5000 * b + i))] (mjW0 s) = (if cR b E.2.2.2.2.1 = -1 then bN (mjF (d + 6) 268 [.ref 97, .int 5, .int r.2.1] (mjW0 s)) (fun hp13 => some (none, hp13)) else bN (mjF (d + 6) 324 [.ref 97, .int (cR b E.2.2.2.2.1)] (mjW0 s)) (fun hp10 => L_323_181 (mjF (d + 6)) mjN 97 0 hp10)) := by
    rw [e_323]
    unfold f_323 b_323_0
    rw [xg_97_54, wa_143 (by omega), row.1, hr, if_neg (by decide), if_neg (by decide), if_pos rfl, xg_97_132, W.1, xg_97_55, wa_144 (by omega), row.2.1, xg_97_132, W.1, xV_97, xV_97]
  have nA' : nA E r j = r.2.2.1 := nA_o (by rw [hr]; decide) (by rw [hr]; decide) (by rw [hr]; decide) (by rw [hr]; decide) (by rw [hr]; decide) (by rw [hr]; decide)
  have hj : jrow E r j = match E.2.2.2.2.1 with
    | none => none
    | some c => some (jpush j (own (nmL E.2.1) c + 2) true ((own (nmL E.2.1) c + 2) :: jRS j), [(3, 0, -1)]) := by
    unfold jrow
    rw [hr, if_neg (by decide), if_neg (by decide), if_pos rfl]
    cases E.2.2.2.2.1 <;> rfl
  cases hc : E.2.2.2.2.1 with
  | none =>
    rw [hc] at pre hj
    obtain ⟨s1, a1, a2, a3⟩ := x_268 (d := d + 5) (s := s) (Or.inl g) (a := 5) (by decide) r.2.1
    rw [if_pos (show cR b none = -1 from rfl), a1, bN_s] at pre
    exact gJ.bad hj pre (o61.V a2) a3
  | some c =>
    have cl := W.2.2.1 c hc
    rw [hc] at pre hj
    obtain ⟨s1, a1, a2, a3, a4, a5⟩ := x_324 (d := d + 5) (n := j.1.length) (by omega) R.1.1 (nI (16 * b + c))
    obtain ⟨s2, b1, b2', b3, b4, b5, b6⟩ := lq_323a (mjF (d + 6)) (n := j.1.length) (by omega) 5 0 mjN s1 (by omega) (by omega) a5 (fun y hy => by omega)
    rw [if_neg (show ¬ cR b (some c) = -1 from nI_m1 (by omega)), show cR b (some c) = nI (16 * b + c) from rfl, a1, bN_s, show (0 : Int32) = nI 0 from rfl, b1] at pre
    have o2 : oT j.1.length s s2 := a2.tr b2'
    have n5 := (vK.n5 hn cl).2
    have f8 : ∀ i, i < nmL E.2.1 c → i < 8 := fun i hi => by omega
    have ec : cK (own (nmL E.2.1) c) = c := mkK_c n5 f8
    refine gJ.ok hj S pre (oT.V o2) (oQ.g o2 g) ?_ ?_ (by rw [hr]; decide) (by rw [hr]; decide)
    · rw [hx]
      refine BR.mkT hn R (o2.Q2 (Nat.le_refl _)) (st := (own (nmL E.2.1) c + 2, true) :: j.1) ⟨⟨?_, b5, vK.own hn cl, fun y hy => ?_⟩, TSs.keepT hn R.1.2.1 o2 (Nat.le_refl _)⟩ (by rw [b4]; exact a5) (by rw [List.length_cons, hl]) (by rw [List.length_cons]; omega)
      · rw [b3, a3]
        show nI (16 * b + c) = nI (16 * b + cK (own (nmL E.2.1) c))
        rw [ec]
      · rw [ec] at hy
        rw [b6 y (by omega), show oK (own (nmL E.2.1) c) y = y from mkK_o n5 f8 hy]
        unfold oR
        rw [if_neg (by omega), if_neg (by omega)]
    · rw [o2.r (by omega), row.2.2.1, nA']
theorem j_6 (S : BS E.1 N b ks E.2.1 E.2.2.1 s) (g : gR0 s) (R : BR E.2.1 b s j x Xe) (row : Rw s (5000 * b + i) r) (hi : i < 5000) (hr : r.1 = 6 ∨ r.1 = 15) (h60 : x.1.2.1 + 1 ≤ 60) (hlx : ¬ x.2.2.1 = i) : gJ E N b ks i kq Xe r j x s (mjF (d + 7) 323 [.ref 97, .int (nI (5000 * b + i))] (mjW0 s)) := by
  have J := S.1.1
  have hn := J.2.2.2.2.2.1
  have hb := J.b1
  have hl := R.1.2.2.1
  have V := R.2.2.1.1
  have pre : mjF (d + 7) 323 [.ref 97, .int (nI (5000 * b + i))] (mjW0 s) = b_323_223 (mjF (d + 6)) 97 (nI (5000 * b + i)) (mjW0 s) := by
    rw [e_323]
    unfold f_323 b_323_0
    rcases hr with hr | hr
    · rw [xg_97_54, wa_143 (by omega), row.1, hr, if_neg (by decide), if_neg (by decide), if_neg (by decide), if_pos rfl]
    · rw [xg_97_54, wa_143 (by omega), row.1, hr, if_neg (by decide), if_neg (by decide), if_neg (by decide), if_neg (by decide), if_neg (by decide), if_neg (by decide), if_neg (by decide), if_neg (by decide), if_neg (by decide), if_neg (by decide), if_neg (by decide), if_neg (by decide), if_pos rfl]
  unfold b_323_223 at pre
  rw [xg_97_58, wa_147 (by omega), row.2.2.2.2, xV_97, x_325 (d := d + 5) V, bI_s, xg_97_55, wa_144 (by omega), row.2.1] at pre
  have nA' : nA E r j = vN (vsK j.2.2.1 r.2.2.2.2) := by
    unfold nA
    rw [if_pos hr]
  have h7 : ¬ r.1 = 7 ∧ ¬ r.1 = 14 := by rcases hr with h | h <;> · rw [h]; decide
  cases hv : vsK j.2.2.1 r.2.2.2.2 with
  | none =>
    rw [hv] at pre
    have hj : jrow E r j = none := by
      unfold jrow
      rcases hr with hr | hr
      · rw [hr, if_neg (by decide), if_neg (by decide), if_neg (by decide), if_pos rfl, hv]
      · rw [hr, if_neg (by decide), if_neg (by decide), if_neg (by decide), if_neg (by decide), if_pos rfl, hv]
    obtain ⟨s1, a1, a2, a3⟩ := x_268 (d := d + 5) (s := s) (Or.inl g) (a := 5) (by decide) r.2.1
    rw [if_pos (show vN none = -1 from rfl), xV_97, a1, bN_s] at pre
    exact gJ.bad hj pre (o61.V a2) a3
  | some e =>
    rw [hv] at pre nA'
    obtain ⟨he, _⟩ := vsK_mem hv
    obtain ⟨e1, e2, e3, e4, e5, e6⟩ := V.1 e he
    have v16 := V.2.2.2.2.2.1
    obtain ⟨z, hz⟩ : ∃ z, z = uI s 145 (upd (s.1 145) (5000 * b + i) (nI e.2.2.1)) := ⟨_, rfl⟩
    have r1 : ∀ h, ¬ h = 145 → z.1 h = s.1 h := fun h e => by rw [hz]; exact uI_ne _ _ _ _ e
    have oz : oV (5000 * b + i) s z := by rw [hz]; exact oV.set
    have Rz : BR E.2.1 b z j x Xe := by rw [hz]; exact BR.set R hlx hn
    obtain ⟨s1, a1, a2, a3, a4⟩ := x_326 (d := d + 4) (s := z) (n := j.1.length) (ti := s.1 159 e.2.2.1) hn (e3.cg (r1 _ (by decide)) (r1 _ (by decide)) (r1 _ (by decide))) (by omega) Rz.1.1
    rw [if_neg (show ¬ vN (some e) = -1 from nI_m1 (by omega)), xg_97_56, ws_145 (by omega), show vN (some e) = nI e.2.2.1 from rfl, ← hz, xg_97_84, wa_159 (by omega), r1 159 (by decide), xV_97, a1, bN_s] at pre
    have o2 : oV (5000 * b + i) s s1 := offG.tr oz (oT.V a2)
    have g1 : gR0 s1 := oQ.g a2 (by show z.1 97 61 = 0; rw [r1 97 (by decide)]; exact g)
    have z5 : s1.1 145 (5000 * b + i) = nI e.2.2.1 := by rw [a2.r (by omega), hz, uI_same, upd_g, if_pos rfl]
    have ts : TSs E.2.1 b s1 ((e.2.1, false) :: j.1) := ⟨a3, TSs.keepT hn Rz.1.2.1 a2 (Nat.le_refl _)⟩
    rcases hr with hr | hr
    · have hj : jrow E r j = some (jpush j e.2.1 false (e.2.1 :: jRS j), [(1, nI e.2.2.1, -1)]) := by
        unfold jrow
        rw [hr, if_neg (by decide), if_neg (by decide), if_neg (by decide), if_pos rfl, hv]
      have hx : nxW r i x = ((x.1.1, x.1.2.1 + 1, x.1.2.2.1, x.1.2.2.2 + 1), x.2) := by
        unfold nxW
        rw [hr, if_neg (by decide), if_neg (by decide), if_neg (by decide), if_neg (by decide), if_neg (by decide), if_neg (by decide), if_neg (by decide), if_neg (by decide), if_neg (by decide), if_neg (by decide)]
        unfold hxE
        rw [hr, if_pos (by decide)]
      refine gJ.ok hj S pre o2 g1 ?_ (by rw [z5, nA']; rfl) h7.1 h7.2
      rw [hx]
      exact BR.mkT hn Rz (a2.Q2 (Nat.le_refl _)) (st := (e.2.1, false) :: j.1) ts a4 (by rw [List.length_cons, hl]) (by rw [List.length_cons]; omega)
    · have hj : jrow E r j = some (((e.2.1, false) :: j.1, j.2.1, j.2.2.1, j.2.2.2.1, j.2.2.2.2.1, j.2.2.2.2.2.1, e.2.2.1, jRS j), []) := by
        unfold jrow
        rw [hr, if_neg (by decide), if_neg (by decide), if_neg (by decide), if_neg (by decide), if_pos rfl, hv]
      have hx : nxW r i x = ((x.1.1, x.1.2.1 + 1, x.1.2.2.1, x.1.2.2.2), x.2.1, i, x.2.2.2) := by
        unfold nxW
        rw [if_pos hr]
      refine gJ.ok hj S pre o2 g1 ?_ (by rw [z5, nA']; rfl) h7.1 h7.2
      rw [hx]
      exact BR.mkL hn Rz (a2.Q2 (Nat.le_refl _)) (st := (e.2.1, false) :: j.1) ts a4 (by rw [List.length_cons, hl]) (by rw [List.length_cons]; omega) z5
end MJA99
end
section
/-! ===== the reference judges one order: signs, tests ===== -/
section MJB00
variable {T : TT} {d N b k t c n m v kq Xe i : Nat} {ks : List Nat} {L : List CD} {s s' s'' : mjSt3} {tr : Bool} {E : EV} {j : JS} {x : WS} {r : Row} {u : mjU} {mm : Option Nat}
theorem nI_p2 (n : Nat) : nI (n + 2) - 2 = nI n := by
  rw [show (2 : Int32) = nI 2 from rfl, ← nI_add, Int32.add_sub_cancel]
theorem lst1 {α : Type} {l : List α} (h : 1 ≤ l.length) : ∃ e st, l = e :: st := by
  cases l with
  | nil => exact absurd h (by show ¬ 1 ≤ 0; omega)
  | cons e st => exact ⟨e, st, rfl⟩
theorem lst2 {α : Type} {l : List α} (h : 2 ≤ l.length) : ∃ e f st, l = e :: f :: st := by
  cases l with
  | nil => exact absurd h (by show ¬ 2 ≤ 0; omega)
  | cons e st =>
    obtain ⟨f, st', h'⟩ := lst1 (l := st) (by have : 2 ≤ st.length + 1 := h; omega)
    exact ⟨e, f, st', by rw [h']⟩
/-- a TYPE less -/
theorem less (hn : HN T N L) {e : Nat × Bool} {st : List (Nat × Bool)} (h1 : s.1 97 82 = nI (e :: st).length) (h2 : TSs L b s (e :: st)) : ∃ s', s' = uI s 97 (upd (s.1 97) 82 (nI st.length)) ∧ oQ st.length s s' ∧ TSs L b s' st ∧ s'.1 97 82 = nI st.length ∧ s'.1 97 61 = s.1 97 61 := by
  refine ⟨_, rfl, oQ.w82, ?_, by rw [uI_same, upd_g, if_pos rfl], by rw [uI_same, upd_g, if_neg (by decide)]⟩
  exact TSs.same hn h2.2 (uI_ne _ _ _ _ (by decide)) (uI_ne _ _ _ _ (by decide)) (uI_ne _ _ _ _ (by decide))
theorem j_30 (S : BS E.1 N b ks E.2.1 E.2.2.1 s) (g : gR0 s) (R : BR E.2.1 b s j x Xe) (row : Rw s (5000 * b + i) r) (hi : i < 5000) (hr : r.1 = 30) (ok : okEr 60 20 120 r x.1) : gJ E N b ks i kq Xe r j x s (mjF (d + 7) 323 [.ref 97, .int (nI (5000 * b + i))] (mjW0 s)) := by
  have J := S.1.1
  have hn := J.2.2.2.2.2.1
  have hb := J.b1
  have h60 := R.1.2.2.2
  have hl := R.1.2.2.1
  have lo := ok.2.2.2.2.2.2.1 (Or.inr (Or.inl hr))
  obtain ⟨e, st, ej⟩ := lst1 (show 1 ≤ j.1.length by omega)
  have q1 := R.1.1
  have q2 := R.1.2.1
  rw [ej] at q1 q2 hl h60
  rw [List.length_cons] at q1 hl h60
  obtain ⟨z, hz⟩ : ∃ z, z = uI s 156 (upd (s.1 156) st.length 0) := ⟨_, rfl⟩
  have r1 : ∀ h, ¬ h = 156 → z.1 h = s.1 h := fun h e => by rw [hz]; exact uI_ne _ _ _ _ e
  have oz : oQ st.length s z := by rw [hz]; exact offG.w (Or.inr (Or.inl ⟨Or.inr rfl, Nat.le_refl _⟩))
  have hj : jrow E r j = some (jst j ((e.1, false) :: st) (jRS j), []) := by
    unfold jrow
    rw [hr, if_neg (by decide), if_neg (by decide), if_neg (by decide), if_neg (by decide), if_neg (by decide), if_neg (by decide), if_pos rfl, ej]
  have hx : nxW r i x = x := by
    rw [nxW_E ok.1]
    show (hxE r x.1, x.2) = x
    unfold hxE
    rw [hr, if_neg (by decide), if_neg (by decide), if_neg (by decide), if_neg (by decide), if_neg (by decide), if_neg (by decide), if_neg (by decide)]
  have pre : mjF (d + 7) 323 [.ref 97, .int (nI (5000 * b + i))] (mjW0 s) = some (none, mjW0 z) := by
    rw [e_323]
    unfold f_323 b_323_0
    rw [xg_97_54, wa_143 (by omega), row.1, hr, if_neg (by decide), if_neg (by decide), if_neg (by decide), if_neg (by decide), if_neg (by decide), if_neg (by decide), if_neg (by decide), if_neg (by decide), if_neg (by decide), if_neg (by decide), if_neg (by decide), if_neg (by decide), if_neg (by decide), if_neg (by decide), if_neg (by decide), if_neg (by decide), if_neg (by decide), if_neg (by decide), if_neg (by decide), if_neg (by decide), if_neg (by decide), if_neg (by decide), if_neg (by decide), if_neg (by decide), if_neg (by decide), if_neg (by decide), if_neg (by decide), if_pos rfl, xg_97_80, xg_97_82, q1, nI_pred, ws_156 (by omega), ← hz]
  refine gJ.ok hj S pre oz.V (by show z.1 97 61 = 0; rw [r1 97 (by decide)]; exact g) ?_ ?_ (by rw [hr]; decide) (by rw [hr]; decide)
  · rw [hx]
    exact BR.mkT hn R oz (st := (e.1, false) :: st) (x := x) (q' := x.1.2.2.2) ⟨⟨by rw [r1 155 (by decide)]; exact q2.1.1, by rw [hz, uI_same, upd_g, if_pos rfl]; rfl, q2.1.2.2.cg hn (fun y _ => by rw [r1 157 (by decide)])⟩, TSs.keepQ hn q2.2 oz (Nat.le_refl _)⟩ (by rw [r1 97 (by decide)]; exact q1) hl h60
  · rw [r1 145 (by decide), row.2.2.1, nA_o (by rw [hr]; decide) (by rw [hr]; decide) (by rw [hr]; decide) (by rw [hr]; decide) (by rw [hr]; decide) (by rw [hr]; decide)]
theorem j_8 (S : BS E.1 N b ks E.2.1 E.2.2.1 s) (g : gR0 s) (R : BR E.2.1 b s j x Xe) (row : Rw s (5000 * b + i) r) (hi : i < 5000) (hr : r.1 = 8) (ok : okEr 60 20 120 r x.1) : gJ E N b ks i kq Xe r j x s (mjF (d + 7) 323 [.ref 97, .int (nI (5000 * b + i))] (mjW0 s)) := by
  have J := S.1.1
  have hn := J.2.2.2.2.2.1
  have hb := J.b1
  have h60 := R.1.2.2.2
  have hl := R.1.2.2.1
  have lo := ok.2.2.2.2.2.2.1 (Or.inr (Or.inr (Or.inl hr)))
  obtain ⟨e, st, ej⟩ := lst1 (show 1 ≤ j.1.length by omega)
  have q1 := R.1.1
  have q2 := R.1.2.1
  rw [ej] at q1 q2 hl h60
  rw [List.length_cons] at q1 hl h60
  have hj : jrow E r j = if e.1 = 0 then some (j, [(16, 0, r.2.1)]) else none := by
    unfold jrow
    rw [hr, if_neg (by decide), if_neg (by decide), if_neg (by decide), if_neg (by decide), if_neg (by decide), if_neg (by decide), if_neg (by decide), if_pos rfl, ej]
  have hx : nxW r i x = x := by
    rw [nxW_E ok.1]
    show (hxE r x.1, x.2) = x
    unfold hxE
    rw [hr, if_neg (by decide), if_neg (by decide), if_neg (by decide), if_neg (by decide), if_neg (by decide), if_neg (by decide), if_neg (by decide)]
  have pre : mjF (d + 7) 323 [.ref 97, .int (nI (5000 * b + i))] (mjW0 s) = if tyC b e.1 = -1 then some (none, mjW0 s) else bN (mjF (d + 6) 268 [.ref 97, .int 7, .int r.2.1] (mjW0 s)) (fun hp30 => some (none, hp30)) := by
    rw [e_323]
    unfold f_323 b_323_0
    rw [xg_97_54, wa_143 (by omega), row.1, hr, if_neg (by decide), if_neg (by decide), if_neg (by decide), if_neg (by decide), if_neg (by decide), if_pos rfl, xg_97_79, xg_97_82, q1, nI_pred, wa_155 (by omega), q2.1.1, xg_97_55, wa_144 (by omega), row.2.1, xV_97]
  have ty := tyC_0 hn hb q2.1.2.2
  by_cases q : e.1 = 0
  · rw [if_pos q] at hj
    rw [if_pos (ty.mpr q)] at pre
    refine gJ.ok hj S pre offG.rf g (by rw [hx]; exact R) ?_ (by rw [hr]; decide) (by rw [hr]; decide)
    rw [row.2.2.1, nA_o (by rw [hr]; decide) (by rw [hr]; decide) (by rw [hr]; decide) (by rw [hr]; decide) (by rw [hr]; decide) (by rw [hr]; decide)]
  · rw [if_neg q] at hj
    obtain ⟨s1, a1, a2, a3⟩ := x_268 (d := d + 5) (s := s) (Or.inl g) (a := 7) (by decide) r.2.1
    rw [if_neg (fun h => q (ty.mp h)), a1, bN_s] at pre
    exact gJ.bad hj pre (o61.V a2) a3
theorem j_9 (S : BS E.1 N b ks E.2.1 E.2.2.1 s) (g : gR0 s) (R : BR E.2.1 b s j x Xe) (row : Rw s (5000 * b + i) r) (hi : i < 5000) (hr : r.1 = 9) (ok : okEr 60 20 120 r x.1) : gJ E N b ks i kq Xe r j x s (mjF (d + 7) 323 [.ref 97, .int (nI (5000 * b + i))] (mjW0 s)) := by
  have J := S.1.1
  have hn := J.2.2.2.2.2.1
  have hb := J.b1
  have h60 := R.1.2.2.2
  have hl := R.1.2.2.1
  have lo := ok.2.2.2.2.2.1 hr
  obtain ⟨t2, t1, st, ej⟩ := lst2 (show 2 ≤ j.1.length by omega)
  have q1 := R.1.1
  have q2 := R.1.2.1
  rw [ej] at q1 q2 hl h60
  rw [List.length_cons, List.length_cons] at q1 hl h60
  have hj : jrow E r j = if (if r.2.2.1 = 257 ∨ r.2.2.1 = 258 then (t1.1 = 0 ↔ t2.1 = 0) else (t1.1 = 0 ∧ t2.1 = 0)) then some (jst j ((0, false) :: st) (0 :: (jRS j).drop 2), [(opr r.2.2.1, 0, r.2.1)]) else none := by
    unfold jrow
    rw [hr, if_neg (by decide), if_neg (by decide), if_neg (by decide), if_neg (by decide), if_neg (by decide), if_neg (by decide), if_neg (by decide), if_neg (by decide), if_pos rfl, ej]
  have hx : nxW r i x = ((x.1.1, x.1.2.1 - 1, x.1.2.2.1, x.1.2.2.2 - 1), x.2) := by
    rw [nxW_E ok.1]
    show (hxE r x.1, x.2) = _
    unfold hxE
    rw [hr, if_neg (by decide), if_neg (by decide), if_pos rfl]
  have ty1 := tyC_0 hn hb q2.2.1.2.2
  have ty2 := tyC_0 hn hb q2.1.2.2
  have pre : mjF (d + 7) 323 [.ref 97, .int (nI (5000 * b + i))] (mjW0 s) = bN (b_327_92 (mjF (d + 5)) 97 (nI (5000 * b + i)) (if (if r.2.2.1 = 257 ∨ r.2.2.1 = 258 then (t1.1 = 0 ↔ t2.1 = 0) else (t1.1 = 0 ∧ t2.1 = 0)) then 1 else 0) (mjW0 s)) (fun hp32 => some (none, hp32)) := by
    rw [e_323]
    unfold f_323 b_323_0
    rw [xg_97_54, wa_143 (by omega), row.1, hr, if_neg (by decide), if_neg (by decide), if_neg (by decide), if_neg (by decide), if_neg (by decide), if_neg (by decide), if_pos rfl, xV_97, e_327]
    unfold f_327 b_327_0 b_327_20 b_327_41 b_327_66 b_327_91
    rw [xg_97_79, xg_97_82, q1, nI_p2, wa_155 (by omega), show s.1 155 st.length = tyC b t1.1 from q2.2.1.1]
    have e2 : nI (st.length + 1 + 1) - 1 = nI (st.length + 1) := nI_pred _
    have h2 : s.1 155 (st.length + 1) = tyC b t2.1 := q2.1.1
    simp only [xg_97_79, xg_97_82, q1, e2, wa_155 (show st.length + 1 < 200 by omega), h2, xg_97_56, wa_145 (show 5000 * b + i < 10000 by omega), row.2.2.1, ty1, ty2]
    by_cases p1 : t1.1 = 0 <;> by_cases p2 : t2.1 = 0 <;> by_cases p7 : r.2.2.1 = 257 <;> by_cases p8 : r.2.2.1 = 258 <;> simp [p1, p2, p7, p8]
  have fin : ∀ z : mjSt3, z.1 97 82 = nI (st.length + 1 + 1) → TSs E.2.1 b z st → ∃ s', b_327_111 (mjF (d + 5)) 97 (mjW0 z) = some (none, mjW0 s') ∧ oQ st.length z s' ∧ TSs E.2.1 b s' ((0, false) :: st) ∧ s'.1 97 82 = nI (st.length + 1) ∧ s'.1 97 61 = z.1 97 61 := by
    intro z z1 z2
    obtain ⟨w, hw⟩ : ∃ w, w = uI z 97 (upd (z.1 97) 82 (nI st.length)) := ⟨_, rfl⟩
    have w7 : w.1 97 82 = nI st.length := by rw [hw, uI_same, upd_g, if_pos rfl]
    have ow : oQ st.length z w := by rw [hw]; exact oQ.w82
    obtain ⟨s1, a1, a2, a3, a4, a5⟩ := x_324 (d := d + 4) (n := st.length) (by omega) w7 (-1)
    refine ⟨s1, ?_, ow.tr (a2.Q2 (Nat.le_refl _)), ⟨⟨a3, a4, trivial⟩, TSs.keepQ hn z2 (ow.tr (a2.Q2 (Nat.le_refl _))) (Nat.le_refl _)⟩, a5, ?_⟩
    · unfold b_327_111
      rw [xg_97_82, z1, nI_p2, xp_97_82, ← hw, xV_97, a1, bN_s]
    · rw [a2.1 97 61 (by omega), hw, uI_same, upd_g, if_neg (by decide)]
  by_cases q : (if r.2.2.1 = 257 ∨ r.2.2.1 = 258 then (t1.1 = 0 ↔ t2.1 = 0) else (t1.1 = 0 ∧ t2.1 = 0))
  · rw [if_pos q] at hj
    obtain ⟨s1, a1, a2, a3, a4, a5⟩ := fin s q1 q2.2.2
    unfold b_327_92 at pre
    rw [if_pos q, if_neg (by decide), a1, bN_s] at pre
    refine gJ.ok hj S pre a2.V (by show s1.1 97 61 = 0; rw [a5]; exact g) ?_ ?_ (by rw [hr]; decide) (by rw [hr]; decide)
    · rw [hx]
      exact BR.mkT hn R a2 (st := (0, false) :: st) a3 a4 (by rw [List.length_cons]; omega) (by rw [List.length_cons]; omega)
    · rw [a2.r (by omega), row.2.2.1, nA_o (by rw [hr]; decide) (by rw [hr]; decide) (by rw [hr]; decide) (by rw [hr]; decide) (by rw [hr]; decide) (by rw [hr]; decide)]
  · rw [if_neg q] at hj
    obtain ⟨s1, a1, a2, a3⟩ := x_268 (d := d + 4) (s := s) (Or.inl g) (a := 7) (by decide) r.2.1
    obtain ⟨s2, b1, b2', b3, b4, b5⟩ := fin s1 (by rw [a2.1 97 82 (by omega)]; exact q1) (TSs.keepQ hn q2.2.2 (o61.Q2 (n := st.length) a2) (Nat.le_refl _))
    unfold b_327_92 at pre
    rw [if_neg q, if_pos rfl, xg_97_55, wa_144 (by omega), row.2.1, xV_97, a1, bN_s, b1, bN_s] at pre
    exact gJ.bad hj pre (offG.tr (o61.V a2) b2'.V) (by show ¬ s2.1 97 61 ≤ 0; rw [b5]; exact a3)
theorem j_1 (S : BS E.1 N b ks E.2.1 E.2.2.1 s) (g : gR0 s) (R : BR E.2.1 b s j x Xe) (row : Rw s (5000 * b + i) r) (hi : i < 5000) (hr : r.1 = 1 ∨ r.1 = 2 ∨ r.1 = 22 ∨ r.1 = 23) : gJ E N b ks i kq Xe r j x s (mjF (d + 7) 323 [.ref 97, .int (nI (5000 * b + i))] (mjW0 s)) := by
  have J := S.1.1
  have hn := J.2.2.2.2.2.1
  have hb := J.b1
  have hj : ∃ l, jrow E r j = some (j, l) := by
    unfold jrow
    rcases hr with hr | hr | hr | hr
    · exact ⟨_, by rw [hr, if_neg (by decide), if_neg (by decide), if_neg (by decide), if_neg (by decide), if_neg (by decide), if_neg (by decide), if_neg (by decide), if_neg (by decide), if_neg (by decide), if_neg (by decide), if_neg (by decide), if_neg (by decide), if_neg (by decide), if_neg (by decide), if_neg (by decide), if_neg (by decide), if_neg (by decide), if_neg (by decide), if_neg (by decide), if_neg (by decide), if_neg (by decide), if_neg (by decide), if_neg (by decide), if_neg (by decide), if_neg (by decide), if_pos rfl]⟩
    · exact ⟨_, by rw [hr, if_neg (by decide), if_neg (by decide), if_neg (by decide), if_neg (by decide), if_neg (by decide), if_neg (by decide), if_neg (by decide), if_neg (by decide), if_neg (by decide), if_neg (by decide), if_neg (by decide), if_neg (by decide), if_neg (by decide), if_neg (by decide), if_neg (by decide), if_neg (by decide), if_neg (by decide), if_neg (by decide), if_neg (by decide), if_neg (by decide), if_neg (by decide), if_neg (by decide), if_neg (by decide), if_neg (by decide), if_neg (by decide), if_neg (by decide), if_pos rfl]⟩
    · exact ⟨_, by rw [hr, if_neg (by decide), if_neg (by decide), if_neg (by decide), if_neg (by decide), if_neg (by decide), if_neg (by decide), if_neg (by decide), if_neg (by decide), if_neg (by decide), if_neg (by decide), if_neg (by decide), if_neg (by decide), if_neg (by decide), if_neg (by decide), if_neg (by decide), if_neg (by decide), if_neg (by decide), if_neg (by decide), if_neg (by decide), if_neg (by decide), if_neg (by decide), if_neg (by decide), if_neg (by decide), if_neg (by decide), if_neg (by decide), if_neg (by decide), if_neg (by decide), if_pos rfl]⟩
    · exact ⟨_, by rw [hr, if_neg (by decide), if_neg (by decide), if_neg (by decide), if_neg (by decide), if_neg (by decide), if_neg (by decide), if_neg (by decide), if_neg (by decide), if_neg (by decide), if_neg (by decide), if_neg (by decide), if_neg (by decide), if_neg (by decide), if_neg (by decide), if_neg (by decide), if_neg (by decide), if_neg (by decide), if_neg (by decide), if_neg (by decide), if_neg (by decide), if_neg (by decide), if_neg (by decide), if_neg (by decide), if_neg (by decide), if_neg (by decide), if_neg (by decide), if_neg (by decide), if_neg (by decide), if_pos rfl]⟩
  obtain ⟨l, hj⟩ := hj
  have pre : mjF (d + 7) 323 [.ref 97, .int (nI (5000 * b + i))] (mjW0 s) = some (none, mjW0 s) := by
    rw [e_323]
    unfold f_323 b_323_0 b_323_517
    rcases hr with hr | hr | hr | hr
    · rw [xg_97_54, wa_143 (by omega), row.1, hr, if_neg (by decide), if_neg (by decide), if_neg (by decide), if_neg (by decide), if_neg (by decide), if_neg (by decide), if_neg (by decide), if_neg (by decide), if_neg (by decide), if_neg (by decide), if_neg (by decide), if_neg (by decide), if_neg (by decide), if_neg (by decide), if_neg (by decide), if_neg (by decide), if_neg (by decide), if_neg (by decide), if_neg (by decide), if_neg (by decide), if_neg (by decide), if_neg (by decide), if_neg (by decide), if_neg (by decide), if_neg (by decide), if_neg (by decide), if_neg (by decide), if_neg (by decide), xV_97, e_335]
      unfold f_335 b_335_0
      rw [xg_97_54, wa_143 (by omega), row.1, hr, if_neg (by decide), if_neg (by decide), if_neg (by decide), if_neg (by decide), if_neg (by decide), if_neg (by decide), if_neg (by decide), if_neg (by decide), if_neg (by decide), if_neg (by decide), if_neg (by decide), if_neg (by decide), bN_s]
    · rw [xg_97_54, wa_143 (by omega), row.1, hr, if_neg (by decide), if_neg (by decide), if_neg (by decide), if_neg (by decide), if_neg (by decide), if_neg (by decide), if_neg (by decide), if_neg (by decide), if_neg (by decide), if_neg (by decide), if_neg (by decide), if_neg (by decide), if_neg (by decide), if_neg (by decide), if_neg (by decide), if_neg (by decide), if_neg (by decide), if_neg (by decide), if_neg (by decide), if_neg (by decide), if_neg (by decide), if_neg (by decide), if_neg (by decide), if_neg (by decide), if_neg (by decide), if_neg (by decide), if_neg (by decide), if_neg (by decide), xV_97, e_335]
      unfold f_335 b_335_0
      rw [xg_97_54, wa_143 (by omega), row.1, hr, if_neg (by decide), if_neg (by decide), if_neg (by decide), if_neg (by decide), if_neg (by decide), if_neg (by decide), if_neg (by decide), if_neg (by decide), if_neg (by decide), if_neg (by decide), if_neg (by decide), if_neg (by decide), bN_s]
    · rw [xg_97_54, wa_143 (by omega), row.1, hr, if_neg (by decide), if_neg (by decide), if_neg (by decide), if_neg (by decide), if_neg (by decide), if_neg (by decide), if_neg (by decide), if_neg (by decide), if_neg (by decide), if_neg (by decide), if_neg (by decide), if_neg (by decide), if_neg (by decide), if_neg (by decide), if_neg (by decide), if_neg (by decide), if_neg (by decide), if_neg (by decide), if_neg (by decide), if_pos rfl, xV_97, e_335]
      unfold f_335 b_335_0
      rw [xg_97_54, wa_143 (by omega), row.1, hr, if_neg (by decide), if_neg (by decide), if_neg (by decide), if_neg (by decide), if_neg (by decide), if_pos rfl, bN_s]
    · rw [xg_97_54, wa_143 (by omega), row.1, hr, if_neg (by decide), if_neg (by decide), if_neg (by decide), if_neg (by decide), if_neg (by decide), if_neg (by decide), if_neg (by decide), if_neg (by decide), if_neg (by decide), if_neg (by decide), if_neg (by decide), if_neg (by decide), if_neg (by decide), if_neg (by decide), if_neg (by decide), if_neg (by decide), if_neg (by decide), if_neg (by decide), if_neg (by decide), if_neg (by decide), if_pos rfl, xV_97, e_335]
      unfold f_335 b_335_0
      rw [xg_97_54, wa_143 (by omega), row.1, hr, if_neg (by decide), if_neg (by decide), if_neg (by decide), if_neg (by decide), if_neg (by decide), if_neg (by decide), if_pos rfl, bN_s]
  have h7 : ¬ r.1 = 7 ∧ ¬ r.1 = 14 ∧ ¬ r.1 = 6 ∧ ¬ r.1 = 15 ∧ ¬ r.1 = 10 ∧ ¬ r.1 = 16 ∧ ¬ r.1 = 17 ∧ ¬ r.1 = 18 := by rcases hr with h | h | h | h <;> · rw [h]; decide
  refine gJ.ok hj S pre offG.rf g (by rw [nx_same hr]; exact R) ?_ h7.1 h7.2.1
  rw [row.2.2.1, nA_o h7.2.2.1 h7.2.2.2.1 h7.2.2.2.2.1 h7.2.2.2.2.2.1 h7.2.2.2.2.2.2.1 h7.2.2.2.2.2.2.2]
theorem j_21 (S : BS E.1 N b ks E.2.1 E.2.2.1 s) (g : gR0 s) (R : BR E.2.1 b s j x Xe) (row : Rw s (5000 * b + i) r) (hi : i < 5000) (hr : r.1 = 21 ∨ r.1 = 24) (lo : 1 ≤ x.1.2.1) : gJ E N b ks i kq Xe r j x s (mjF (d + 7) 323 [.ref 97, .int (nI (5000 * b + i))] (mjW0 s)) := by
  have J := S.1.1
  have hn := J.2.2.2.2.2.1
  have hb := J.b1
  have h60 := R.1.2.2.2
  have hl := R.1.2.2.1
  obtain ⟨e, st, ej⟩ := lst1 (show 1 ≤ j.1.length by omega)
  have q1 := R.1.1
  have q2 := R.1.2.1
  rw [ej] at q1 q2 hl h60
  have q1' := q1
  have q2' := q2
  rw [List.length_cons] at q1 hl h60
  have ty := tyC_0 hn hb q2.1.2.2
  have hj : ∃ l, jrow E r j = if e.1 = 0 then some (jst j st ((jRS j).drop 1), l) else none := by
    unfold jrow
    rcases hr with hr | hr
    · exact ⟨_, by rw [hr, if_neg (by decide), if_neg (by decide), if_neg (by decide), if_neg (by decide), if_neg (by decide), if_neg (by decide), if_neg (by decide), if_neg (by decide), if_neg (by decide), if_neg (by decide), if_neg (by decide), if_neg (by decide), if_neg (by decide), if_neg (by decide), if_neg (by decide), if_neg (by decide), if_neg (by decide), if_neg (by decide), if_neg (by decide), if_pos rfl, ej]⟩
    · exact ⟨_, by rw [hr, if_neg (by decide), if_neg (by decide), if_neg (by decide), if_neg (by decide), if_neg (by decide), if_neg (by decide), if_neg (by decide), if_neg (by decide), if_neg (by decide), if_neg (by decide), if_neg (by decide), if_neg (by decide), if_neg (by decide), if_neg (by decide), if_neg (by decide), if_neg (by decide), if_neg (by decide), if_neg (by decide), if_neg (by decide), if_neg (by decide), if_pos rfl, ej]⟩
  obtain ⟨l, hj⟩ := hj
  have pre : mjF (d + 7) 323 [.ref 97, .int (nI (5000 * b + i))] (mjW0 s) = bN (b_335_321 (mjF (d + 5)) 97 (nI (5000 * b + i)) (mjW0 s)) (fun hp1 => some (none, hp1)) := by
    rw [e_323]
    unfold f_323 b_323_0 b_323_517
    rcases hr with hr | hr
    · rw [xg_97_54, wa_143 (by omega), row.1, hr, if_neg (by decide), if_neg (by decide), if_neg (by decide), if_neg (by decide), if_neg (by decide), if_neg (by decide), if_neg (by decide), if_neg (by decide), if_neg (by decide), if_neg (by decide), if_neg (by decide), if_neg (by decide), if_neg (by decide), if_neg (by decide), if_neg (by decide), if_neg (by decide), if_neg (by decide), if_neg (by decide), if_pos rfl, xV_97, e_335]
      unfold f_335 b_335_0
      rw [xg_97_54, wa_143 (by omega), row.1, hr, if_neg (by decide), if_neg (by decide), if_neg (by decide), if_neg (by decide), if_pos rfl]
    · rw [xg_97_54, wa_143 (by omega), row.1, hr, if_neg (by decide), if_neg (by decide), if_neg (by decide), if_neg (by decide), if_neg (by decide), if_neg (by decide), if_neg (by decide), if_neg (by decide), if_neg (by decide), if_neg (by decide), if_neg (by decide), if_neg (by decide), if_neg (by decide), if_neg (by decide), if_neg (by decide), if_neg (by decide), if_neg (by decide), if_neg (by decide), if_neg (by decide), if_neg (by decide), if_neg (by decide), if_pos rfl, xV_97, e_335]
      unfold f_335 b_335_0
      rw [xg_97_54, wa_143 (by omega), row.1, hr, if_neg (by decide), if_neg (by decide), if_neg (by decide), if_neg (by decide), if_neg (by decide), if_neg (by decide), if_neg (by decide), if_pos rfl]
  have h7 : ¬ r.1 = 7 ∧ ¬ r.1 = 14 ∧ ¬ r.1 = 6 ∧ ¬ r.1 = 15 ∧ ¬ r.1 = 10 ∧ ¬ r.1 = 16 ∧ ¬ r.1 = 17 ∧ ¬ r.1 = 18 := by rcases hr with h | h <;> · rw [h]; decide
  have hx : nxW r i x = ((x.1.1, x.1.2.1 - 1, x.1.2.2.1, x.1.2.2.2 - 1), x.2) := nx_pop (by rcases hr with h | h <;> · rw [h]; decide) _ _
  unfold b_335_321 b_335_348 at pre
  rw [xg_97_79, xg_97_82, q1, nI_pred, wa_155 (by omega), q2.1.1] at pre
  by_cases q : e.1 = 0
  · rw [if_pos q] at hj
    obtain ⟨s1, h1, o1, t1, w1, g1⟩ := less hn q1' q2'
    rw [if_pos (ty.mpr q), xg_97_82, q1, nI_pred, xp_97_82, ← h1, bN_s] at pre
    refine gJ.ok hj S pre o1.V (by show s1.1 97 61 = 0; rw [g1]; exact g) ?_ ?_ h7.1 h7.2.1
    · rw [hx]
      exact BR.mkT hn R o1 t1 w1 (by omega) (by omega)
    · rw [o1.r (by omega), row.2.2.1, nA_o h7.2.2.1 h7.2.2.2.1 h7.2.2.2.2.1 h7.2.2.2.2.2.1 h7.2.2.2.2.2.2.1 h7.2.2.2.2.2.2.2]
  · rw [if_neg q] at hj
    obtain ⟨s1, a1, a2, a3⟩ := x_268 (d := d + 4) (s := s) (Or.inl g) (a := 7) (by decide) r.2.1
    have q1s : s1.1 97 82 = nI (e :: st).length := by rw [a2.1 97 82 (by omega)]; exact q1'
    obtain ⟨s2, h2, o2, t2, w2, g2⟩ := less hn q1s (TSs.keepQ hn q2' (o61.Q2 (n := (e :: st).length) a2) (Nat.le_refl _))
    rw [if_neg (fun h => q (ty.mp h)), xg_97_55, wa_144 (by omega), row.2.1, xV_97, a1, bN_s, xg_97_82, q1s, List.length_cons, nI_pred, xp_97_82, ← h2, bN_s] at pre
    exact gJ.bad hj pre (offG.tr (o61.V a2) o2.V) (by show ¬ s2.1 97 61 ≤ 0; rw [g2]; exact a3)
theorem j_25 (S : BS E.1 N b ks E.2.1 E.2.2.1 s) (g : gR0 s) (R : BR E.2.1 b s j x Xe) (row : Rw s (5000 * b + i) r) (hi : i < 5000) (hr : r.1 = 25) (lo : 1 ≤ x.1.2.1) : gJ E N b ks i kq Xe r j x s (mjF (d + 7) 323 [.ref 97, .int (nI (5000 * b + i))] (mjW0 s)) := by
  have J := S.1.1
  have hn := J.2.2.2.2.2.1
  have hb := J.b1
  have h60 := R.1.2.2.2
  have hl := R.1.2.2.1
  obtain ⟨e, st, ej⟩ := lst1 (show 1 ≤ j.1.length by omega)
  have q1 := R.1.1
  have q2 := R.1.2.1
  rw [ej] at q1 q2 hl h60
  obtain ⟨s1, h1, o1, t1, w1, g1⟩ := less hn q1 q2
  rw [List.length_cons] at q1 hl h60
  have hj : jrow E r j = some (jst j st ((jRS j).drop 1), [(5, 0, -1)]) := by
    unfold jrow
    rw [hr, if_neg (by decide), if_neg (by decide), if_neg (by decide), if_neg (by decide), if_neg (by decide), if_neg (by decide), if_neg (by decide), if_neg (by decide), if_neg (by decide), if_neg (by decide), if_neg (by decide), if_neg (by decide), if_neg (by decide), if_neg (by decide), if_neg (by decide), if_neg (by decide), if_neg (by decide), if_neg (by decide), if_neg (by decide), if_neg (by decide), if_neg (by decide), if_neg (by decide), if_pos rfl, ej]
  have pre : mjF (d + 7) 323 [.ref 97, .int (nI (5000 * b + i))] (mjW0 s) = some (none, mjW0 s1) := by
    rw [e_323]
    unfold f_323 b_323_0 b_323_517
    rw [xg_97_54, wa_143 (by omega), row.1, hr, if_neg (by decide), if_neg (by decide), if_neg (by decide), if_neg (by decide), if_neg (by decide), if_neg (by decide), if_neg (by decide), if_neg (by decide), if_neg (by decide), if_neg (by decide), if_neg (by decide), if_neg (by decide), if_neg (by decide), if_neg (by decide), if_neg (by decide), if_neg (by decide), if_neg (by decide), if_neg (by decide), if_neg (by decide), if_neg (by decide), if_neg (by decide), if_neg (by decide), if_pos rfl, xV_97, e_335]
    unfold f_335 b_335_0
    rw [xg_97_54, wa_143 (by omega), row.1, hr, if_neg (by decide), if_neg (by decide), if_neg (by decide), if_neg (by decide), if_neg (by decide), if_neg (by decide), if_neg (by decide), if_neg (by decide), if_pos rfl, xg_97_82, q1, nI_pred, xp_97_82, ← h1, bN_s]
  have hx : nxW r i x = ((x.1.1, x.1.2.1 - 1, x.1.2.2.1, x.1.2.2.2 - 1), x.2) := nx_pop (by rw [hr]; decide) _ _
  refine gJ.ok hj S pre o1.V (by show s1.1 97 61 = 0; rw [g1]; exact g) ?_ ?_ (by rw [hr]; decide) (by rw [hr]; decide)
  · rw [hx]
    exact BR.mkT hn R o1 t1 w1 (by omega) (by omega)
  · rw [o1.r (by omega), row.2.2.1, nA_o (by rw [hr]; decide) (by rw [hr]; decide) (by rw [hr]; decide) (by rw [hr]; decide) (by rw [hr]; decide) (by rw [hr]; decide)]
end MJB00
end
