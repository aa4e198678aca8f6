/-! ===== the Coder: a STATEMENT that begins with an E ===== -/
section MJA41
variable {E : EV} {d N q c t n e k u v i m o w cs c0 c1 kq nt D me i0 td ty f0 : Nat} {s s1 s2 s' s0 : mjSt3} {j j0 j' jl : JS} {y : PZ} {os osL : List Row} {l l1 : List Ins} {al : Bool}
/-- codeLeft's first half, when it is no NAME = -/
theorem left62 (hT : TH E.1 N s) (f : fne s c) (hc : c ≤ N) (hne : ¬ ((E.1 c).1 = 3 ∧ (E.1 (c + 1)).1 = 61)) : mjF (d + 2) 34 [.ref 75] (mjW0 s) = b_34_62 (mjF (d + 1)) 75 (mjW0 s) := by
  have pre : mjF (d + 2) 34 [.ref 75] (mjW0 s) = _ := e_34 (d := d + 1)
  unfold f_34 b_34_0 at pre
  rw [xg_75_0, xV_58, j_is hT f.1 hc, bI_s, i01] at pre
  by_cases e3 : (E.1 c).1 = 3
  · have cN := lt_z hT.2.2.1 hc e3 (by decide)
    rw [if_pos e3, xg_75_0, xg_75_0, xV_58, j_now hT f.1 hc, bI_s, nI_1, xV_58, j_kind hT f.1 hc (show c + 1 ≤ N by omega), bI_s, if_neg (fun x => hne ⟨e3, x⟩)] at pre
    exact pre
  · rw [if_neg e3] at pre
    exact pre
theorem useC {z : PB} {rest : List Row} (ho : o ≤ 12) (hD : 96 ≤ D) (hc : c ≤ N) (C : CE E N q s j cs) (f : fne s c) (hz : pUse E.1 (N + 1) o c j.2.2.2.1 kq i0 = .inr z) (er : z.2.2.2.1 = oLine E.1 c :: rest) (hK : KT E.2.2.2.1 kq z.2.2.1) (hA : AG s z.2.2.2.2) (hb : cs + (z.1 - (c + 1)) ≤ 3090) : gSm E N q s (c + 1) cs j rest (bI (mjF (D + 1) 34 [.ref 75] (mjW0 s)) (fun v20 hp21 => (if v20 = 5 then b_8_233 (mjF (D + 1)) 75 hp21 else gI hp21 75 1 16 (fun v22 => rV hp21 75 1 (bN (mjF (D + 1) 32 [.ref 75, .int v22] hp21) (fun hp23 => b_8_233 (mjF (D + 1)) 75 hp23)))))) z.1 z.2.1 := by
  have hT := C.TH
  have h0 := hT.2.2.1
  have hN := hT.2.1
  have hn := C.1.hn
  have hq' : q = 2 ∨ q = 30 := C.pq
  obtain ⟨D', rfl⟩ : ∃ D', D = D' + 7 := ⟨D - 7, by omega⟩
  -- behind 34, in a bad state
  have bad : ∀ (s1 : mjSt3) (v : Int32), BC E.1 N q E.2.1 E.2.2.1 s1 → oC q s s1 → jrun E rest j = none → mjF (D' + 7 + 1) 34 [.ref 75] (mjW0 s) = some (some (.int v), mjW0 s1) → gSm E N q s (c + 1) cs j rest (bI (mjF (D' + 7 + 1) 34 [.ref 75] (mjW0 s)) (fun v20 hp21 => (if v20 = 5 then b_8_233 (mjF (D' + 7 + 1)) 75 hp21 else gI hp21 75 1 16 (fun v22 => rV hp21 75 1 (bN (mjF (D' + 7 + 1) 32 [.ref 75, .int v22] hp21) (fun hp23 => b_8_233 (mjF (D' + 7 + 1)) 75 hp23)))))) z.1 z.2.1 := by
    intro s1 v B ob nj pr
    obtain ⟨s2, w1, w2, w3⟩ := n_use (d := D') B v
    refine Or.inr ⟨s2, ?_, nj, w2, ob.tr w3⟩
    rw [pr, bI_s]
    exact w1
  unfold pUse at hz
  cases hv : prV E.1 (N + 1) o c kq with
  | inl x => rw [hv] at hz; cases hz
  | inr y =>
    rw [hv] at hz
    dsimp only at hz
    have yl := (prE_len (T := E.1) (M := N + 1) 100 0 o c kq y (by omega) hv).1
    by_cases hA1 : (E.1 y.1).1 = 61 ∧ (y.2.1 = 1 ∨ y.2.1 = 2)
    · rw [if_pos hA1] at hz
      cases hv2 : prV E.1 (N + 1) o (y.1 + 1) (kq + y.2.2.1.length) with
      | inl x => rw [hv2] at hz; cases hz
      | inr z2 =>
        rw [hv2] at hz
        dsimp only at hz
        have zl := (prE_len (T := E.1) (M := N + 1) 100 0 o (y.1 + 1) _ z2 (by omega) hv2).1
        by_cases h59 : (E.1 z2.1).1 = 59
        · rw [if_pos h59] at hz
          cases hz
          cases er
          dsimp only at hK hA hb ⊢
          by_cases s1' : y.2.1 = 1
          · obtain ⟨e3, ey⟩ := prE_s1 100 0 o c kq y (by omega) hv s1'
            subst ey
            have cN := lt_z h0 hc e3 (by decide)
            have e61 : (E.1 (c + 1)).1 = 61 := hA1.1
            have c1N := lt_z h0 (show c + 1 ≤ N by omega) e61 (by decide)
            dsimp only at *
            have pre : mjF (D' + 7 + 1) 34 [.ref 75] (mjW0 s) = _ := e_34 (d := D' + 7)
            unfold f_34 b_34_0 at pre
            rw [xg_75_0, xV_58, j_is hT f.1 hc, bI_s, i01, if_pos e3, xg_75_0, xg_75_0, xV_58, j_now hT f.1 hc, bI_s, nI_1, xV_58, j_kind hT f.1 hc (show c + 1 ≤ N by omega), bI_s, if_pos e61, xV_75] at pre
            have ol := (oLeft_c 1 [] (6, (E.1 c).2.1, 0, 0, (E.1 c).2.2.1)).1
            rw [if_pos rfl] at ol
            have ol : oLeft 1 [((6, (E.1 c).2.1, 0, 0, (E.1 c).2.2.1) : Row)] = [(15, (E.1 c).2.1, 0, 0, (E.1 c).2.2.1)] := ol
            obtain ⟨G, B⟩ := x_17 (d := D' + 5) hT C.KY C.2.2.2.1 f cN e3
            have lv := lv_row (E := E) (j := j) (E.1 c).2.1 0 0 (E.1 c).2.2.1
            have evk := vsI_K j.2.2.1 (kyT E.1 c)
            cases hvi : vsI j.2.2.1 (kyT E.1 c) with
            | none =>
              rw [hvi] at evk
              have evk : vsK j.2.2.1 (E.1 c).2.2.1 = none := evk
              rw [evk] at lv
              obtain ⟨s1, y1, y2, y3⟩ := B hvi
              have B1 := C.bad (by omega) y3 y2
              obtain ⟨s2, r1, r2, r3, r4, r5, r6, r7⟩ := x_25 (d := D' + 6) (s := s1) 2 0 (-1)
              obtain ⟨s3, hs3⟩ : ∃ z, z = uI s2 75 (upd (s2.1 75) 16 (-1)) := ⟨_, rfl⟩
              have g75 : ∀ j, ¬ (13 ≤ j ∧ j ≤ 16) → s3.1 75 j = s1.1 75 j := fun j hj => by
                rw [hs3, uI_same, upd_g, if_neg (by omega)]
                exact r5 j (by omega)
              obtain ⟨B3, o3⟩ := B1.aim (s' := s3) g75 (fun h hh => by rw [hs3, uI_ne _ _ _ _ hh]; exact r6 h hh) (by rw [hs3]; exact r7)
              rw [y1, bI_s, xV_75, x_20n.2, bI_s, xV_75, r1, bN_s, xV_75, x_20n.1, bI_s, xp_75_16, ← hs3, xg_75_13] at pre
              refine bad s3 _ B3 (y3.C.tr o3) ?_ pre
              rw [ol]
              refine jrun_no ?_
              exact jrun_no3 (a := []) (l := []) (j1 := j) rfl lv
            | some i =>
              have il := fnd_lt hvi
              obtain ⟨e, he⟩ : ∃ e, j.2.2.1[i]? = some e := ⟨_, List.getElem?_eq_getElem il⟩
              rw [hvi] at evk
              dsimp only at evk
              rw [he] at evk
              have evk : vsK j.2.2.1 (E.1 c).2.2.1 = some e := evk
              rw [evk] at lv
              dsimp only at lv
              obtain ⟨_, _, tv, fl, _⟩ := C.2.2.2.1.2.2.2.2 i e he
              have x1 : o58 s (tkGo s (c + 1)) := o58.go _ _
              have V1 := C.2.2.2.1.oE C.pq x1.oe
              obtain ⟨s2, r1, r2, r3, r4, r5, r6, r7⟩ := x_25 (d := D' + 6) (s := tkGo s (c + 1)) 2 (nI e.2.2.1) (-1)
              have u2 : oU q (tkGo s (c + 1)) s2 := oU.aim (fun j hj => r5 j (by omega)) r6 r7
              have V2 := V1.oU C.pq u2
              obtain ⟨s3, hs3⟩ : ∃ z, z = uI s2 75 (upd (s2.1 75) 16 (tyI e.2.1)) := ⟨_, rfl⟩
              have g75 : ∀ j, ¬ j = 16 → s3.1 75 j = s2.1 75 j := fun j hj => by rw [hs3, uI_same, upd_g, if_neg hj]
              have u3 : oU q s2 s3 := oU.aim (fun j hj => g75 j (by omega)) (fun h hh => by rw [hs3, uI_ne _ _ _ _ hh]) (by rw [hs3]; rfl)
              have uu : oU q s s3 := x1.oe.U.tr (u2.tr u3)
              rw [G i hvi, bI_s, xV_75, (x_20 (d := D' + 6) V1 he).2, bI_s, xV_75, r1, bN_s, xV_75, (x_20 (d := D' + 6) V2 he).1, bI_s, xp_75_16, ← hs3, xg_75_13, g75 13 (by decide), r2] at pre
              have row : ∀ h, ¬ h = 75 → ¬ h = 58 → s3.1 h = s.1 h := fun h h1 h2 => by
                rw [hs3, uI_ne _ _ _ _ h1, r6 h h1, x1.r h2]
              have sz : s3.1 (q + 24) 3 = nI (cs + ([] : List Ins).length) := by
                rw [hs3, uI_ne _ _ _ _ (by omega), r6 _ (by omega), x1.r (by omega)]; exact C.2.2.2.2
              have fn : fne s3 (c + 1) := by
                have : s3.1 58 = (tkGo s (c + 1)).1 58 := by rw [hs3, uI_ne _ _ _ _ (by decide), r6 _ (by decide)]
                exact ⟨by rw [this]; exact (f.go (c + 1)).1, by rw [this]; exact (f.go (c + 1)).2⟩
              rw [pre, bI_s, ol]
              have R := asgC (E := E) (N := N) (q := q) (s := s) (s2 := s3) (j := j) (jl := jLf j e.2.1 e.2.2.1 (jRS j)) (j' := (j.1, j.2.1, j.2.2.1, j.2.2.2.1, j.2.2.2.2.1, j.2.2.2.2.2.1, e.2.2.1, jRS j)) (cs := cs) (c0 := c + 1) (c1 := c + 1) (l1 := []) (osL := [(15, (E.1 c).2.1, 0, 0, (E.1 c).2.2.1)]) (r := (17, (E.1 (c + 1)).2.1, nI (i0 + 1), (oLast [((6, (E.1 c).2.1, 0, 0, (E.1 c).2.2.1) : Row)]).2.1, 0)) (op := 2) (p := -1) (f0 := e.2.2.1) (w := e.2.1) (D := D' + 7) ho hD C ((C.goU uu sz).same rfl rfl) fn c1N uu CL.nil (fun k _ => by rw [row _ (by omega) (by omega), row _ (by omega) (by omega), row _ (by omega) (by omega)]; exact ⟨rfl, rfl, rfl⟩) (by show 0 + (c + 1) ≤ c + 1; omega) (by rw [jrun_1, lv]) (by rw [g75 13 (by decide)]; exact r2) (by rw [g75 14 (by decide)]; exact r3) (by rw [g75 15 (by decide)]; exact r4) (by rw [hs3, uI_same, upd_g, if_pos rfl]) tv (by decide) rfl rfl ⟨rfl, rfl, ⟨[], (List.append_nil _).symm, fun e h => by cases h⟩, rfl, rfl⟩ hv2 h59 (KT.app hK).2 (AG.app hA).2 (by omega) (fun t al => ⟨fun h => by rw [sv_row, if_pos h], fun h => by rw [sv_row, if_neg h]⟩)
              exact R
          · have s2' : y.2.1 = 2 := by
              rcases hA1.2 with h | h
              · exact absurd h s1'
              · exact h
            have e61 := hA1.1
            have hne : ¬ ((E.1 c).1 = 3 ∧ (E.1 (c + 1)).1 = 61) := by
              intro h
              have := (prE_61 h.1 h.2 100 0 o kq y (by omega) hv).2
              exact s1' this
            have pre := left62 (d := D' + 6) hT f hc hne
            unfold b_34_62 b_34_96 at pre
            rw [xV_75] at pre
            rw [s2', if_neg (show ¬ (2 : Int32) = 1 by decide)]
            have G := hLV (E := E) (N := N) (q := q) (D := D' + 7) ho (by omega) c kq cs s j y hc C f hv e61 s2' (KT.app hK).1 (AG.app hA).1 (by omega)
            rcases G with ⟨s1, t, f1, t0, l1, g1, g2, g3, g4, g5, g6, g7, g8, g9, gN, g13, g14, g15⟩ | ⟨s1, vv, g1, gv, g2, B1, g4⟩
            · have y1N := lt_z h0 gN e61 (by decide)
              obtain ⟨s3, hs3⟩ : ∃ z, z = uI s1 75 (upd (s1.1 75) 16 (tyI t)) := ⟨_, rfl⟩
              have g75 : ∀ j, ¬ j = 16 → s3.1 75 j = s1.1 75 j := fun j hj => by rw [hs3, uI_same, upd_g, if_neg hj]
              have row : ∀ h, ¬ h = 75 → s3.1 h = s1.1 h := fun h h1 => by rw [hs3, uI_ne _ _ _ _ h1]
              have u3 : oU q s1 s3 := oU.aim (fun j hj => g75 j (by omega)) row (by rw [hs3]; rfl)
              have uu : oU q s s3 := g8.tr u3
              have fn : fne s3 y.1 := ⟨by rw [row 58 (by decide)]; exact g4.1, by rw [row 58 (by decide)]; exact g4.2⟩
              have sz : s3.1 (q + 24) 3 = nI (cs + l1.length) := by rw [row _ (by omega)]; exact g5
              have C3 := C.goU uu sz
              have cp : CP q (cs + l1.length) s1 s3 := fun k _ => by
                rw [row _ (by omega), row _ (by omega), row _ (by omega)]
                exact ⟨rfl, rfl, rfl⟩
              rw [g1, bI_s, xp_75_16, ← hs3, xg_75_0, xV_58, j_is C3.TH fn.1 gN, bI_s, i01, if_pos e61, xg_75_13, g75 13 (by decide), g13] at pre
              rw [pre, bI_s]
              have R := asgC (E := E) (N := N) (q := q) (s := s) (s2 := s3) (j := j) (jl := jLf j t f1 (t0 :: jRS j)) (j' := (j.1, j.2.1, j.2.2.1, j.2.2.2.1, j.2.2.2.2.1, j.2.2.2.2.2.1, f1, jRS j)) (cs := cs) (c0 := c + 1) (c1 := y.1) (l1 := l1) (osL := oLeft 2 y.2.2.2.1) (r := (18, (E.1 y.1).2.1, nI (i0 + y.2.2.2.1.length), (oLast y.2.2.2.1).2.1, 0)) (op := 4) (p := (oLast y.2.2.2.1).2.1) (f0 := f1) (w := t) (D := D' + 7) ho hD C (C3.same rfl rfl) fn y1N uu (g6.keep cp) (CP.trn g7 (cp.mono (by omega))) (by omega) g2 (by rw [g75 13 (by decide)]; exact g13) (by rw [g75 14 (by decide)]; exact g14) (by rw [g75 15 (by decide)]; exact g15) (by rw [hs3, uI_same, upd_g, if_pos rfl]) g3 (by decide) rfl rfl ⟨rfl, rfl, ⟨[], (List.append_nil _).symm, fun e h => by cases h⟩, rfl, rfl⟩ hv2 h59 (KT.app hK).2 (AG.app hA).2 (by omega) (fun t al => ⟨fun h => by rw [sf_row, if_pos h], fun h => by rw [sf_row, if_neg h]⟩)
              exact R
            · obtain ⟨s3, hs3⟩ : ∃ z, z = uI s1 75 (upd (s1.1 75) 16 (tyI vv)) := ⟨_, rfl⟩
              have row : ∀ h, ¬ h = 75 → s3.1 h = s1.1 h := fun h h1 => by rw [hs3, uI_ne _ _ _ _ h1]
              obtain ⟨B3, o3⟩ := B1.aim (s' := s3) (fun j hj => by rw [hs3, uI_same, upd_g, if_neg (by omega)]) row (by rw [hs3]; rfl)
              obtain ⟨s4, r1, r2, r3, r4, r5, r6, r7⟩ := x_25 (d := D' + 6) (s := s3) 5 0 (-1)
              obtain ⟨B4, o4⟩ := B3.aim (s' := s4) (fun j hj => r5 j (by omega)) r6 r7
              rw [g1, bI_s, xp_75_16, ← hs3, xg_75_0, xV_58, kN0 B3 (by decide), bI_s, if_pos rfl, xg_75_0, xV_58, B3.skp, bN_s, xV_75, r1, bN_s, xg_75_13] at pre
              have nb := bad s4 (s4.1 75 13) B4 (g4.tr (o3.tr o4))
              rw [s2', if_neg (show ¬ (2 : Int32) = 1 by decide)] at nb
              exact nb (by rw [List.append_assoc]; exact jrun_no g2) pre
        · rw [if_neg h59] at hz; cases hz
    · rw [if_neg hA1] at hz
      by_cases hB : (E.1 y.1).1 = 59 ∧ y.2.1 = 3
      · rw [if_pos hB] at hz
        cases hz
        cases er
        dsimp only at hK hA hb ⊢
        have hne : ¬ ((E.1 c).1 = 3 ∧ (E.1 (c + 1)).1 = 61) := by
          intro h
          have := (prE_61 h.1 h.2 100 0 o kq y (by omega) hv).2
          rw [hB.2] at this
          cases this
        have n61 : ¬ (E.1 y.1).1 = 61 := by rw [hB.1]; decide
        have pre := left62 (d := D' + 6) hT f hc hne
        unfold b_34_62 b_34_96 at pre
        rw [xV_75] at pre
        have G := hV (E := E) (N := N) (q := q) (D := D' + 7) ho (by omega) c kq cs s j y hc C f hv n61 hK hA (by omega)
        rcases G with ⟨s1, t, al, l, g1, A, gN, g4⟩ | ⟨s1, vv, g1, gv, g2, B1, g4⟩
        · have g4 : l.length + c + 3 ≤ y.1 := g4 hB.2
          have y1N := lt_z h0 gN hB.1 (by decide)
          obtain ⟨s3, hs3⟩ : ∃ z, z = uI s1 75 (upd (s1.1 75) 16 (tyI t)) := ⟨_, rfl⟩
          have row3 : ∀ h, ¬ h = 75 → s3.1 h = s1.1 h := fun h h1 => by rw [hs3, uI_ne _ _ _ _ h1]
          have u3 : oU q s1 s3 := oU.aim (fun j hj => by rw [hs3, uI_same, upd_g, if_neg (by omega)]) row3 (by rw [hs3]; rfl)
          have f3 : fne s3 y.1 := ⟨by rw [row3 58 (by decide)]; exact A.2.2.1.1, by rw [row3 58 (by decide)]; exact A.2.2.1.2⟩
          have C1 := C.go A.2.2.2.2.2.2.1 A.2.2.2.1
          have C3 := C1.goU u3 (n := cs + l.length) (by rw [row3 _ (by omega)]; exact A.2.2.2.1)
          have xg : o58 s3 (tkGo s3 (y.1 + 1)) := o58.go _ _
          obtain ⟨s4, r1, r2, r3, r4, r5, r6, r7⟩ := x_25 (d := D' + 6) (s := tkGo s3 (y.1 + 1)) 5 0 (-1)
          have u4 : oU q (tkGo s3 (y.1 + 1)) s4 := oU.aim (fun j hj => r5 j (by omega)) r6 r7
          have uu : oU q s1 s4 := u3.tr (xg.oe.U.tr u4)
          have row : ∀ h, ¬ h = 75 → ¬ h = 58 → s4.1 h = s1.1 h := fun h h1 h2 => by rw [r6 h h1, xg.r h2, row3 h h1]
          have C4 := C1.goU uu (n := cs + l.length) (by rw [row _ (by omega) (by omega)]; exact A.2.2.2.1)
          rw [g1, bI_s, xp_75_16, ← hs3, xg_75_0, xV_58, j_is C3.TH f3.1 gN, bI_s, i01, if_neg n61, xg_75_0, xV_58, j_skip C3.TH f3 y1N, bN_s, xV_75, r1, bN_s, xg_75_13, r2] at pre
          obtain ⟨s5, w1, w2, w3, w4, w5, w6⟩ := put1 (d := D' + 7) C4 (by omega) 5 0 (-1)
          rw [pre, bI_s, if_pos rfl]
          unfold b_8_233
          rw [xg_75_5, C4.1.2.2.2.2.2.2.2, xg_75_13, xg_75_14, xg_75_15, r2, r3, r4, ycV C.pq, w1, bI_s]
          have cp : CP q (cs + l.length) s1 s4 := fun k _ => by
            rw [row _ (by omega) (by omega), row _ (by omega) (by omega), row _ (by omega) (by omega)]
            exact ⟨rfl, rfl, rfl⟩
          have ll : (l ++ [((5, 0, -1) : Ins)]).length = l.length + 1 := by rw [List.length_append, List.length_singleton]
          refine Or.inl ⟨s5, j, l ++ [(5, 0, -1)], rfl, ⟨?_, ?_, ?_, ?_, ?_, (oE.S A.2.2.2.2.2.2.1).tr (uu.S.tr w2.S), ?_, ?_, JK.rf⟩, rfl⟩
          · rw [jrun_app, A.1]
            dsimp only
            rw [jrun_1, dr_row]
          · rw [ll, ← Nat.add_assoc]
            exact C4.go w2 w4
          · have : s5.1 58 = (tkGo s3 (y.1 + 1)).1 58 := by rw [w3, r6 _ (by decide)]
            exact ⟨by rw [this]; exact (f3.go (y.1 + 1)).1, by rw [this]; exact (f3.go (y.1 + 1)).2⟩
          · exact ((A.2.2.2.2.1.keep cp).keep w6).app w5
          · exact CP.trn A.2.2.2.2.2.1 (CP.trn (cp.mono (by omega)) (w6.mono (by omega)))
          · rw [ll]; omega
          · show y.1 + 1 ≤ N; omega
        · obtain ⟨s3, hs3⟩ : ∃ z, z = uI s1 75 (upd (s1.1 75) 16 (tyI vv)) := ⟨_, rfl⟩
          have row : ∀ h, ¬ h = 75 → s3.1 h = s1.1 h := fun h h1 => by rw [hs3, uI_ne _ _ _ _ h1]
          obtain ⟨B3, o3⟩ := B1.aim (s' := s3) (fun j hj => by rw [hs3, uI_same, upd_g, if_neg (by omega)]) row (by rw [hs3]; rfl)
          obtain ⟨s4, r1, r2, r3, r4, r5, r6, r7⟩ := x_25 (d := D' + 6) (s := s3) 5 0 (-1)
          obtain ⟨B4, o4⟩ := B3.aim (s' := s4) (fun j hj => r5 j (by omega)) r6 r7
          rw [g1, bI_s, xp_75_16, ← hs3, xg_75_0, xV_58, kN0 B3 (by decide), bI_s, if_pos rfl, xg_75_0, xV_58, B3.skp, bN_s, xV_75, r1, bN_s, xg_75_13] at pre
          exact bad s4 _ B4 (g4.tr (o3.tr o4)) (jrun_no g2) pre
      · rw [if_neg hB] at hz; cases hz
end MJA41
