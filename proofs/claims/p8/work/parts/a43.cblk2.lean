/-! ===== the Coder: codeBlock, codeCondition ===== -/
section MJA43
variable {E : EV} {d N q c t n e k u v i m o w cs c0 c1 kq nt D me i0 td kn f : Nat} {s s1 s2 s' s0 : mjSt3} {j j0 j' jb : JS} {y : PZ} {os : List Row} {l l1 : List Ins} {r : Row} {al : Bool}
theorem VSr.cut {T : TT} {L : List CD} {a b : List VE} (V : VSr T N L (a ++ b) td s) (h11 : s'.1 75 11 = nI a.length) (h12 : s'.1 75 12 = s.1 75 12) (h77 : s'.1 77 = s.1 77) (h78 : s'.1 78 = s.1 78) (hl : s'.2.1 = s.2.1) : VSr T N L a td s' := by
  obtain ⟨v1, v2, v3, v4, v5⟩ := V
  rw [List.length_append] at v3
  refine ⟨h11, by rw [h12]; exact v2, by omega, v4, fun i e he => ?_⟩
  have := (List.getElem?_eq_some_iff.mp he).1
  rw [h77, h78, hl]
  exact v5 i e (by rw [List.getElem?_append_left this]; exact he)
theorem en_row (x a b : Int32) (nm : Int64) : jrow E (26, x, a, b, nm) j = some ((j.1, j.2.1, j.2.2.1, j.2.2.2.1, j.2.2.2.2.1 + 1, j.2.2.2.2.2), []) := rfl
theorem lf27 (x a b : Int32) (nm : Int64) : jrow E (27, x, a, b, nm) j = some ((j.1, j.2.1, j.2.2.1.filter (fun e => decide (¬ e.2.2.2 = j.2.2.2.2.1)), j.2.2.2.1, j.2.2.2.2.1 - 1, j.2.2.2.2.2), []) := rfl
theorem flt (vs nw : List VE) (dp : Nat) (h1 : ∀ e, e ∈ vs → e.2.2.2 ≤ dp) (h2 : ∀ e, e ∈ nw → e.2.2.2 = dp + 1) : (vs ++ nw).filter (fun e => decide (¬ e.2.2.2 = dp + 1)) = vs := by
  rw [List.filter_append]
  have a : vs.filter (fun e => decide (¬ e.2.2.2 = dp + 1)) = vs := List.filter_eq_self.mpr (fun e he => decide_eq_true (by have := h1 e he; omega))
  have b : nw.filter (fun e => decide (¬ e.2.2.2 = dp + 1)) = [] := List.filter_eq_nil_iff.mpr (fun e he => by rw [h2 e he]; simp)
  rw [a, b, List.append_nil]
theorem jcons (r : Row) (os : List Row) (h : jrow E r j = some (j', l)) : jrun E (r :: os) j = match jrun E os j' with
    | none => none
    | some (j2, c2) => some (j2, l ++ c2) := by
  show (match jrow E r j with
    | none => none
    | some (j1, c1) => match jrun E os j1 with
      | none => none
      | some (j2, c2) => some (j2, c1 ++ c2)) = _
  rw [h]
/-- codeBlock -/
theorem x_7 (h8 : ¬ o = 12 → hSt E N q (d + 1) 8 0 (prS E.1 (N + 1) f 1 (o + 1))) : hSt E N q (d + 2) 7 2 (prS E.1 (N + 1) (f + 1) 0 o) := by
  intro c kq i0 cs s j z hc C hR hV f0 hz hK hA hP hb hi0 hkq
  have hT := C.TH
  have h0 := hT.2.2.1
  have hN := hT.2.1
  have hq' : q = 2 ∨ q = 30 := C.pq
  have l16 : j.2.2.1.length ≤ 16 := by have := C.2.2.2.1.2.2.1; have := C.2.2.2.1.2.2.2.1; omega
  have pre : mjF (d + 2) 7 [.ref 75] (mjW0 s) = _ := e_7 (d := d + 1)
  unfold f_7 b_7_0 at pre
  rw [prS_0] at hz
  unfold pBlk at hz
  by_cases e123 : (E.1 c).1 = 123
  · rw [if_pos e123] at hz
    have cN := lt_z h0 hc e123 (by decide)
    by_cases o12 : o = 12
    · rw [if_pos o12] at hz; cases hz
    rw [if_neg o12] at hz
    cases hs : pSeq E.1 (prS E.1 (N + 1) f 1 (o + 1)) kq i0 (N + 1) (c + 1, j.2.2.2.1, [], [(26, (E.1 (c + 1)).2.1, 0, 0, 0)], []) with
    | inl x => rw [hs] at hz; cases hz
    | inr y =>
      rw [hs] at hz
      dsimp only at hz
      by_cases e125 : (E.1 y.1).1 = 125
      · rw [if_pos e125] at hz
        cases hz
        dsimp only at hK hA hP hb hi0 hkq ⊢
        rw [List.length_append, List.length_singleton] at hi0
        have hlt : ∀ c td kq i0 x, prS E.1 (N + 1) f 1 (o + 1) c td kq i0 = .inr x → c < x.1 := fun c td kq i0 x hx => prS_lt f 1 (o + 1) c td kq i0 x (by omega) hx
        have y1 := (pSeq_pre hlt _ _ _ hs).1
        dsimp only at y1
        obtain ⟨jb, hjb⟩ : ∃ jb : JS, jb = (j.1, j.2.1, j.2.2.1, j.2.2.2.1, j.2.2.2.2.1 + 1, j.2.2.2.2.2) := ⟨_, rfl⟩
        have er := en_row (E := E) (j := j) (E.1 (c + 1)).2.1 0 0 0
        rw [← hjb] at er
        have b1 : jb.2.2.1 = j.2.2.1 := by rw [hjb]
        have b2' : jb.2.2.2.1 = j.2.2.2.1 := by rw [hjb]
        have b3 : jb.2.2.2.2.1 = j.2.2.2.2.1 + 1 := by rw [hjb]
        have xg : o58 s (tkGo s (c + 1)) := o58.go _ _
        have C1 : CE E N q (tkGo s (c + 1)) jb cs := (C.go xg.oe (by rw [xg.r (by omega)]; exact C.2.2.2.2)).same b1 b2'
        rw [xg_75_11, C.2.2.2.1.1, xg_75_0, xV_58, j_skip hT f0 cN, bN_s, show (0 : Int32) = nI 0 from rfl] at pre
        have hP' : ∀ os', y.2.2.2.1 = (26, (E.1 (c + 1)).2.1, 0, 0, 0) :: os' → PS E (i0 + 1) cs os' jb := by
          intro os' e
          have p1 := hP.prf
          rw [e] at p1
          have := PS.sub (a := [(26, (E.1 (c + 1)).2.1, 0, 0, 0)]) (b := os') (j1 := jb) (l1 := []) p1 (by rw [jrun_1]; exact er)
          exact this
        have S := seqC (d := d) (y := y) (s0 := s) (jb := jb) (c0 := c + 1) (cs := cs) (kn := j.2.2.1.length) (r := (26, (E.1 (c + 1)).2.1, 0, 0, 0)) (h8 o12) hlt (C.same b1 b2') hR (fun e he => by rw [b1] at he; rw [b3]; have := hV e he; omega) hK hA hP' (by omega) (by omega) hkq l16 (N + 1) mjN 0 _ (tkGo s (c + 1)) jb [] [] hs rfl (by omega) (by have := mjN_v; omega) ⟨rfl, C1, f0.go _, CL.nil, CP.o58 C.pq xg, xg.S, by show 0 + (c + 1) ≤ c + 1; omega, by show c + 1 ≤ N; omega, JK.rf⟩ b2'
        rcases S with ⟨s', j', l', os'', e1, g1, A, gtd⟩ | ⟨s', os'', e1, g1, g2⟩
        · obtain ⟨A1, A2, A3, A4, A5, A6, A7, A8, A9⟩ := A
          obtain ⟨k1, k2, ⟨nw, k3, k4⟩, k5, k6⟩ := A9
          have yN := lt_z h0 A8 e125 (by decide)
          have xg2 : o58 s' (tkGo s' (y.1 + 1)) := o58.go _ _
          obtain ⟨s3, hs3⟩ : ∃ z, z = uI (tkGo s' (y.1 + 1)) 75 (upd ((tkGo s' (y.1 + 1)).1 75) 11 (nI j.2.2.1.length)) := ⟨_, rfl⟩
          have row : ∀ h, ¬ h = 75 → ¬ h = 58 → s3.1 h = s'.1 h := fun h h1 h2 => by rw [hs3, uI_ne _ _ _ _ h1, xg2.r h2]
          have g75 : ∀ j, ¬ j = 11 → s3.1 75 j = s'.1 75 j := fun j hj => by rw [hs3, uI_same, upd_g, if_neg hj, xg2.r (by decide)]
          have o3 : oSt q s' s3 := xg2.S.tr (by rw [hs3]; exact offG.w (Or.inr (Or.inl ⟨rfl, by omega, by omega⟩)))
          have fr : oSt q s s3 := A6.tr o3
          have sz : s3.1 (q + 24) 3 = nI (cs + l'.length) := by rw [row _ (by omega) (by omega)]; exact A2.2.2.2.2
          have cp : CP q (cs + l'.length) s' s3 := fun k _ => by
            rw [row _ (by omega) (by omega), row _ (by omega) (by omega), row _ (by omega) (by omega)]
            exact ⟨rfl, rfl, rfl⟩
          have V3 : VSr E.1 N E.2.1 j.2.2.1 j'.2.2.2.1 s3 := by
            have V := A2.2.2.2.1
            rw [k3, b1] at V
            exact V.cut (by rw [hs3, uI_same, upd_g, if_pos rfl]) (g75 12 (by decide)) (row 77 (by decide) (by decide)) (row 78 (by decide) (by decide)) (by rw [hs3]; rfl)
          have lr := lf27 (E := E) (j := j') (E.1 (y.1 + 1)).2.1 0 0 0
          rw [k3, b1, k5, b3, flt j.2.2.1 nw j.2.2.2.2.1 hV (fun e he => by rw [k4 e he, b3])] at lr
          rw [g1] at pre
          unfold b_7_57 at pre
          rw [xg_75_0, xV_58, j_skip A2.TH A3 yN, bN_s, xp_75_11, ← hs3] at pre
          refine Or.inl ⟨s3, (j'.1, j'.2.1, j.2.2.1, j'.2.2.2.1, j.2.2.2.2.1 + 1 - 1, j'.2.2.2.2.2), l', pre, ⟨?_, ⟨C.1.oC fr.C, by rw [fr.ff C.pq (by omega)]; exact C.2.1, C.2.2.1, V3, sz⟩, ?_, A4.keep cp, CP.trn A5 (cp.mono (by omega)), fr, by omega, by show y.1 + 1 ≤ N; omega, ⟨?_, ?_, ⟨[], (List.append_nil _).symm, fun e h => by cases h⟩, rfl, ?_⟩⟩, gtd⟩
          · rw [e1, List.cons_append, jcons _ _ er, jrun_app, A1]
            dsimp only
            rw [jrun_1, lr]
            dsimp only
            rw [List.append_nil, List.nil_append]
          · have : s3.1 58 = (tkGo s' (y.1 + 1)).1 58 := by rw [hs3, uI_ne _ _ _ _ (by decide)]
            exact ⟨by rw [this]; exact (A3.go (y.1 + 1)).1, by rw [this]; exact (A3.go (y.1 + 1)).2⟩
          · exact k1.trans (by rw [hjb])
          · exact k2.trans (by rw [hjb])
          · exact k6.trans (by rw [hjb]; rfl)
        · rw [g1] at pre
          refine Or.inr ⟨s', pre, ?_, g2.2.1, g2.2.2⟩
          rw [e1, List.cons_append, jcons _ _ er, jrun_no g2.1]
      · rw [if_neg e125] at hz; cases hz
  · rw [if_neg e123] at hz; cases hz
/-- codeCondition -/
theorem x_10 (ho : o ≤ 12) (hD : 96 ≤ D) (hc : c ≤ N) (hc1 : c + 1 < N) (C : CE E N q s j cs) (f0 : fne s c) (hz : prV E.1 (N + 1) o (c + 2) kq = .inr y) (h41 : (E.1 y.1).1 = 41) (hK : KT E.2.2.2.1 kq y.2.2.1) (hA : AG s y.2.2.2.2) (hb : cs + (y.1 - c) ≤ 3090) : (∃ s' al l, mjF (D + 1) 10 [.ref 75] (mjW0 s) = some (some (.int (nI (cs + l.length))), mjW0 s') ∧ jrun E y.2.2.2.1 j = some (jE j 0 al, l) ∧ fne s' (y.1 + 1) ∧ s'.1 (q + 24) 3 = nI (cs + l.length + 1) ∧ CL q s' cs (l ++ [(7, 0, -1)]) ∧ CP q cs s s' ∧ oE q s s' ∧ l.length + c + 2 ≤ y.1 ∧ y.1 + 1 ≤ N) ∨ (∃ s' n', mjF (D + 1) 10 [.ref 75] (mjW0 s) = some (some (.int (nI n')), mjW0 s') ∧ n' ≤ 3100 ∧ BC E.1 N q E.2.1 E.2.2.1 s' ∧ oC q s s' ∧ (jrun E y.2.2.2.1 j = none ∨ ∃ t al l, jrun E y.2.2.2.1 j = some (jE j t al, l) ∧ ¬ t = 0)) := by
  have hT := C.TH
  have h0 := hT.2.2.1
  have hq' : q = 2 ∨ q = 30 := C.pq
  obtain ⟨D', rfl⟩ : ∃ D', D = D' + 3 := ⟨D - 3, by omega⟩
  have pre : mjF (D' + 3 + 1) 10 [.ref 75] (mjW0 s) = _ := e_10 (d := D' + 3)
  have xg : o58 s (tkGo s (c + 1)) := o58.go _ _
  have C1 : CE E N q (tkGo s (c + 1)) j cs := C.go xg.oe (by rw [xg.r (by omega)]; exact C.2.2.2.2)
  have xg2 : o58 s (tkGo (tkGo s (c + 1)) (c + 1 + 1)) := xg.tr (o58.go _ _)
  have C2 : CE E N q (tkGo (tkGo s (c + 1)) (c + 1 + 1)) j cs := C.go xg2.oe (by rw [xg2.r (by omega)]; exact C.2.2.2.2)
  unfold f_10 b_10_0 at pre
  rw [xg_75_0, xV_58, j_now hT f0.1 hc, bI_s, xg_75_0, xV_58, j_skip hT f0 (by omega), bN_s, xg_75_0, xV_58, j_skip C1.TH (f0.go _) hc1, bN_s, xV_75] at pre
  have yl := (prE_len (T := E.1) (M := N + 1) 100 0 o (c + 2) kq y (by omega) hz).1
  have G := hV (E := E) (q := q) ho hD (c + 2) kq cs (tkGo (tkGo s (c + 1)) (c + 1 + 1)) j y (by omega) C2 ((f0.go _).go _) hz (by rw [h41]; decide) hK (hA.oE C.pq xg2.oe) (by omega)
  rcases G with ⟨s1, t, al, l, g1, A, gN, _⟩ | ⟨s1, vv, g1, gv, g2, g3, g4⟩
  · have A8 := A.2.2.2.2.2.2.2
    have C3 := C2.go A.2.2.2.2.2.2.1 A.2.2.2.1
    have yN := lt_z h0 gN h41 (by decide)
    obtain ⟨s3, y1, y2, y3, y4⟩ := x_27 (d := D' + 1) C3.1 (GB.of A.2.2.1 gN) hc (A.2.1.lt C.1.hn)
    rw [g1, bI_s, xV_75, y1, bN_s] at pre
    by_cases t0 : t = 0
    · rw [y3 t0, xg_75_0, xV_58, j_skip C3.TH A.2.2.1 yN, bN_s] at pre
      have xg3 : o58 s1 (tkGo s1 (y.1 + 1)) := o58.go _ _
      have A4 := A.t58 C.pq xg3 (A.2.2.1.go (y.1 + 1)) (show y.1 ≤ y.1 + 1 by omega)
      have C4 := C2.go A4.2.2.2.2.2.2.1 A4.2.2.2.1
      obtain ⟨s4, w1, w2, w3, w4, w5, w6⟩ := put1 (d := D' + 2) C4 (by omega) 7 0 (-1)
      rw [xg_75_5, C4.1.2.2.2.2.2.2.2, ycV C.pq, w1, bI_s] at pre
      refine Or.inl ⟨s4, al, l, pre, by rw [A.1, t0], ⟨by rw [w3]; exact A4.2.2.1.1, by rw [w3]; exact A4.2.2.1.2⟩, w4, (A4.2.2.2.2.1.keep w6).app w5, CP.trn (CP.o58 C.pq xg2) (CP.trn A4.2.2.2.2.2.1 (w6.mono (by omega))), xg2.oe.tr (A4.2.2.2.2.2.2.1.tr w2), by omega, by omega⟩
    · have B : BC E.1 N q E.2.1 E.2.2.1 s3 := C3.bad (by omega) y2 (y4 t0)
      obtain ⟨s4, n', w1, w2, w3, w4, w5⟩ := n_emit (d := D' + 2) B 7 0 (-1)
      rw [xg_75_0, xV_58, B.skp, bN_s, xg_75_5, B.1.2.2.2.2.2.2.2, ycV C.pq, w1, bI_s] at pre
      exact Or.inr ⟨s4, n', pre, w2, w3, xg2.C.tr (A.2.2.2.2.2.2.1.C.tr (y2.C.tr w4)), Or.inr ⟨t, al, l, A.1, t0⟩⟩
  · obtain ⟨s3, y1, y2, y3, y4⟩ := x_27 (d := D' + 1) g3.1 (GB.ob g3.2.1) hc gv
    have B : BC E.1 N q E.2.1 E.2.2.1 s3 := g3.of58' y2 (by
      by_cases h : vv = 0
      · exact Or.inl (y3 h)
      · exact Or.inr (y4 h))
    obtain ⟨s4, n', w1, w2, w3, w4, w5⟩ := n_emit (d := D' + 2) B 7 0 (-1)
    rw [g1, bI_s, xV_75, y1, bN_s, xg_75_0, xV_58, B.skp, bN_s, xg_75_5, B.1.2.2.2.2.2.2.2, ycV C.pq, w1, bI_s] at pre
    exact Or.inr ⟨s4, n', pre, w2, w3, xg2.C.tr (g4.tr (y2.C.tr w4)), Or.inl g2⟩
end MJA43
