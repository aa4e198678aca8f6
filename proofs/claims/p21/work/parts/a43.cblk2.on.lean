section
/-! ===== the Coder: codeBlock, codeCondition ===== -/
section MJA43
variable {E : EV} {d N q c t n e k u v i m o w cs c0 c1 kq nt D me i0 td kn f : Nat} {s s1 s2 s' s0 : mjSt3} {j j0 j' jb : JS} {y : PZ} {os : List Row} {l l1 : List Ins} {r : Row} {al : Bool}
theorem VSr.cut {T : TT} {L : List CD} {a b : List VE} (V : VSr T N L (a ++ b) td s) (h11 : s'.1 75 11 = nI a.length) (h12 : s'.1 75 12 = s.1 75 12) (h77 : s'.1 77 = s.1 77) (h78 : s'.1 78 = s.1 78) (hl : s'.2.1 = s.2.1) : VSr T N L a td s' := by
  obtain ⟨v1, v2, v3, v4, v5⟩ := V
  rw [List.length_append] at v3
  refine ⟨h11, by rw [h12]; exact v2, by omega, v4, fun i e he => ?_⟩
  have := (List.getElem?_eq_some_iff.mp he).1
  rw [h77, h78, hl]
  exact v5 i e (by rw [List.getElem?_append_left this]; exact he)
theorem en_row (x a b : Int32) (nm : Int64) : jrow E (26, x, a, b, nm) j = some ((j.1, j.2.1, j.2.2.1, j.2.2.2.1, j.2.2.2.2.1 + 1, j.2.2.2.2.2), []) := rfl
theorem lf27 (x a b : Int32) (nm : Int64) : jrow E (27, x, a, b, nm) j = some ((j.1, j.2.1, j.2.2.1.filter (fun e => decide (¬ e.2.2.2 = j.2.2.2.2.1)), j.2.2.2.1, j.2.2.2.2.1 - 1, j.2.2.2.2.2), []) := rfl
theorem flt (vs nw : List VE) (dp : Nat) (h1 : ∀ e, e ∈ vs → e.2.2.2 ≤ dp) (h2 : ∀ e, e ∈ nw → e.2.2.2 = dp + 1) : (vs ++ nw).filter (fun e => decide (¬ e.2.2.2 = dp + 1)) = vs := by
  rw [List.filter_append]
  have a : vs.filter (fun e => decide (¬ e.2.2.2 = dp + 1)) = vs := List.filter_eq_self.mpr (fun e he => decide_eq_true (by have := h1 e he; omega))
  have b : nw.filter (fun e => decide (¬ e.2.2.2 = dp + 1)) = [] := List.filter_eq_nil_iff.mpr (fun e he => by rw [h2 e he]; simp)
  rw [a, b, List.append_nil]
theorem jcons (r : Row) (os : List Row) (h : jrow E r j = some (j', l)) : jrun E (r :: os) j = match jrun E os j' with
    | none => none
    | some (j2, c2) => some (j2, l ++ c2) := by
  show (match jrow E r j with
    | none => none
    | some (j1, c1) => match jrun E os j1 with
      | none => none
      | some (j2, c2) => some (j2, c1 ++ c2)) = _
  rw [h]
/-- codeBlock -/
theorem x_7 (h8 : ¬ o = 12 → hSt E N q (d + 1) 8 0 (prS E.1 (N + 1) f 1 (o + 1))) : hSt E N q (d + 2) 7 2 (prS E.1 (N + 1) (f + 1) 0 o) := by
  intro c kq i0 cs s j z hc C hR hV f0 hz hK hA hP hb hi0 hkq
  have hT := C.TH
  have h0 := hT.2.2.1
  have hN := hT.2.1
  have hq' : q = 2 ∨ q = 30 := C.pq
  have l16 : j.2.2.1.length ≤ 16 := by have := C.2.2.2.1.2.2.1; have := C.2.2.2.1.2.2.2.1; omega
  have pre : mjF (d + 2) 7 [.ref 75] (mjW0 s) = _ := e_7 (d := d + 1)
  unfold f_7 b_7_0 at pre
  rw [prS_0] at hz
  unfold pBlk at hz
  by_cases e123 : (E.1 c).1 = 123
  · rw [if_pos e123] at hz
    have cN := lt_z h0 hc e123 (by decide)
    by_cases o12 : o = 12
    · rw [if_pos o12] at hz; cases hz
    rw [if_neg o12] at hz
    cases hs : pSeq E.1 (prS E.1 (N + 1) f 1 (o + 1)) kq i0 (N + 1) (c + 1, j.2.2.2.1, [], [(26, (E.1 (c + 1)).2.1, 0, 0, 0)], []) with
    | inl x => rw [hs] at hz; cases hz
    | inr y =>
      rw [hs] at hz
      dsimp only at hz
      by_cases e125 : (E.1 y.1).1 = 125
      · rw [if_pos e125] at hz
        cases hz
        dsimp only at hK hA hP hb hi0 hkq ⊢
        rw [List.length_append, List.length_singleton] at hi0
        have hlt : ∀ c td kq i0 x, prS E.1 (N + 1) f 1 (o + 1) c td kq i0 = .inr x → c < x.1 := fun c td kq i0 x hx => prS_lt f 1 (o + 1) c td kq i0 x (by omega) hx
        have y1 := (pSeq_pre hlt _ _ _ hs).1
        dsimp only at y1
        obtain ⟨jb, hjb⟩ : ∃ jb : JS, jb = (j.1, j.2.1, j.2.2.1, j.2.2.2.1, j.2.2.2.2.1 + 1, j.2.2.2.2.2) := ⟨_, rfl⟩
        have er := en_row (E := E) (j := j) (E.1 (c + 1)).2.1 0 0 0
        rw [← hjb] at er
        have b1 : jb.2.2.1 = j.2.2.1 := by rw [hjb]
        have b2' : jb.2.2.2.1 = j.2.2.2.1 := by rw [hjb]
        have b3 : jb.2.2.2.2.1 = j.2.2.2.2.1 + 1 := by rw [hjb]
        have xg : o58 s (tkGo s (c + 1)) := o58.go _ _
        have C1 : CE E N q (tkGo s (c + 1)) jb cs := (C.go xg.oe (by rw [xg.r (by omega)]; exact C.2.2.2.2)).same b1 b2'
        rw [xg_75_11, C.2.2.2.1.1, xg_75_0, xV_58, j_skip hT f0 cN, bN_s, show (0 : Int32) = nI 0 from rfl] at pre
        have hP' : ∀ os', y.2.2.2.1 = (26, (E.1 (c + 1)).2.1, 0, 0, 0) :: os' → PS E (i0 + 1) cs os' jb := by
          intro os' e
          have p1 := hP.prf
          rw [e] at p1
          have := PS.sub (a := [(26, (E.1 (c + 1)).2.1, 0, 0, 0)]) (b := os') (j1 := jb) (l1 := []) p1 (by rw [jrun_1]; exact er)
          exact this
        have S := seqC (d := d) (y := y) (s0 := s) (jb := jb) (c0 := c + 1) (cs := cs) (kn := j.2.2.1.length) (r := (26, (E.1 (c + 1)).2.1, 0, 0, 0)) (h8 o12) hlt (C.same b1 b2') hR (fun e he => by rw [b1] at he; rw [b3]; have := hV e he; omega) hK hA hP' (by omega) (by omega) hkq l16 (N + 1) mjN 0 _ (tkGo s (c + 1)) jb [] [] hs rfl (by omega) (by have := mjN_v; omega) ⟨rfl, C1, f0.go _, CL.nil, CP.o58 C.pq xg, xg.S, by show 0 + (c + 1) ≤ c + 1; omega, by show c + 1 ≤ N; omega, JK.rf⟩ b2'
        rcases S with ⟨s', j', l', os'', e1, g1, A, gtd⟩ | ⟨s', os'', e1, g1, g2⟩
        · obtain ⟨A1, A2, A3, A4, A5, A6, A7, A8, A9⟩ := A
          obtain ⟨k1, k2, ⟨nw, k3, k4⟩, k5, k6⟩ := A9
          have yN := lt_z h0 A8 e125 (by decide)
          have xg2 : o58 s' (tkGo s' (y.1 + 1)) := o58.go _ _
          obtain ⟨s3, hs3⟩ : ∃ z, z = uI (tkGo s' (y.1 + 1)) 75 (upd ((tkGo s' (y.1 + 1)).1 75) 11 (nI j.2.2.1.length)) := ⟨_, rfl⟩
          have row : ∀ h, ¬ h = 75 → ¬ h = 58 → s3.1 h = s'.1 h := fun h h1 h2 => by rw [hs3, uI_ne _ _ _ _ h1, xg2.r h2]
          have g75 : ∀ j, ¬ j = 11 → s3.1 75 j = s'.1 75 j := fun j hj => by rw [hs3, uI_same, upd_g, if_neg hj, xg2.r (by decide)]
          have o3 : oSt q s' s3 := xg2.S.tr (by rw [hs3]; exact offG.w (Or.inr (Or.inl ⟨rfl, by omega, by omega⟩)))
          have fr : oSt q s s3 := A6.tr o3
          have sz : s3.1 (q + 24) 3 = nI (cs + l'.length) := by rw [row _ (by omega) (by omega)]; exact A2.2.2.2.2
          have cp : CP q (cs + l'.length) s' s3 := fun k _ => by
            rw [row _ (by omega) (by omega), row _ (by omega) (by omega), row _ (by omega) (by omega)]
            exact ⟨rfl, rfl, rfl⟩
          have V3 : VSr E.1 N E.2.1 j.2.2.1 j'.2.2.2.1 s3 := by
            have V := A2.2.2.2.1
            rw [k3, b1] at V
            exact V.cut (by rw [hs3, uI_same, upd_g, if_pos rfl]) (g75 12 (by decide)) (row 77 (by decide) (by decide)) (row 78 (by decide) (by decide)) (by rw [hs3]; rfl)
          have lr := lf27 (E := E) (j := j') (E.1 (y.1 + 1)).2.1 0 0 0
          rw [k3, b1, k5, b3, flt j.2.2.1 nw j.2.2.2.2.1 hV (fun e he => by rw [k4 e he, b3])] at lr
          rw [g1] at pre
          unfold b_7_57 at pre
          rw [xg_75_0, xV_58, j_skip A2.TH A3 yN, bN_s, xp_75_11, ← hs3] at pre
          refine Or.inl ⟨s3, (j'.1, j'.2.1, j.2.2.1, j'.2.2.2.1, j.2.2.2.2.1 + 1 - 1, j'.2.2.2.2.2), l', pre, ⟨?_, ⟨C.1.oC fr.C, by rw [fr.ff C.pq (by omega)]; exact C.2.1, C.2.2.1, V3, sz⟩, ?_, A4.keep cp, CP.trn A5 (cp.mono (by omega)), fr, by omega, by show y.1 + 1 ≤ N; omega, ⟨?_, ?_, ⟨[], (List.append_nil _).symm, fun e h => by cases h⟩, rfl, ?_⟩⟩, gtd⟩
          · rw [e1, List.cons_append, jcons _ _ er, jrun_app, A1]
            dsimp only
            rw [jrun_1, lr]
            dsimp only
            rw [List.append_nil, List.nil_append]
          · have : s3.1 58 = (tkGo s' (y.1 + 1)).1 58 := by rw [hs3, uI_ne _ _ _ _ (by decide)]
            exact ⟨by rw [this]; exact (A3.go (y.1 + 1)).1, by rw [this]; exact (A3.go (y.1 + 1)).2⟩
          · exact k1.trans (by rw [hjb])
          · exact k2.trans (by rw [hjb])
          · exact k6.trans (by rw [hjb]; rfl)
        · rw [g1] at pre
          refine Or.inr ⟨s', pre, ?_, g2.2.1, g2.2.2⟩
          rw [e1, List.cons_append, jcons _ _ er, jrun_no g2.1]
      · rw [if_neg e125] at hz; cases hz
  · rw [if_neg e123] at hz; cases hz
/-- codeCondition -/
theorem x_10 (ho : o ≤ 12) (hD : 96 ≤ D) (hc : c ≤ N) (hc1 : c + 1 < N) (C : CE E N q s j cs) (f0 : fne s c) (hz : prV E.1 (N + 1) o (c + 2) kq = .inr y) (h41 : (E.1 y.1).1 = 41) (hK : KT E.2.2.2.1 kq y.2.2.1) (hA : AG s y.2.2.2.2) (hb : cs + (y.1 - c) ≤ 3090) : (∃ s' al l, mjF (D + 1) 10 [.ref 75] (mjW0 s) = some (some (.int (nI (cs + l.length))), mjW0 s') ∧ jrun E y.2.2.2.1 j = some (jE j 0 al, l) ∧ fne s' (y.1 + 1) ∧ s'.1 (q + 24) 3 = nI (cs + l.length + 1) ∧ CL q s' cs (l ++ [(7, 0, -1)]) ∧ CP q cs s s' ∧ oE q s s' ∧ l.length + c + 2 ≤ y.1 ∧ y.1 + 1 ≤ N) ∨ (∃ s' n', mjF (D + 1) 10 [.ref 75] (mjW0 s) = some (some (.int (nI n')), mjW0 s') ∧ n' ≤ 3100 ∧ BC E.1 N q E.2.1 E.2.2.1 s' ∧ oC q s s' ∧ (jrun E y.2.2.2.1 j = none ∨ ∃ t al l, jrun E y.2.2.2.1 j = some (jE j t al, l) ∧ ¬ t = 0)) := by
  have hT := C.TH
  have h0 := hT.2.2.1
  have hq' : q = 2 ∨ q = 30 := C.pq
  obtain ⟨D', rfl⟩ : ∃ D', D = D' + 3 := ⟨D - 3, by omega⟩
  have pre : mjF (D' + 3 + 1) 10 [.ref 75] (mjW0 s) = _ := e_10 (d := D' + 3)
  have xg : o58 s (tkGo s (c + 1)) := o58.go _ _
  have C1 : CE E N q (tkGo s (c + 1)) j cs := C.go xg.oe (by rw [xg.r (by omega)]; exact C.2.2.2.2)
  have xg2 : o58 s (tkGo (tkGo s (c + 1)) (c + 1 + 1)) := xg.tr (o58.go _ _)
  have C2 : CE E N q (tkGo (tkGo s (c + 1)) (c + 1 + 1)) j cs := C.go xg2.oe (by rw [xg2.r (by omega)]; exact C.2.2.2.2)
  unfold f_10 b_10_0 at pre
  rw [xg_75_0, xV_58, j_now hT f0.1 hc, bI_s, xg_75_0, xV_58, j_skip hT f0 (by omega), bN_s, xg_75_0, xV_58, j_skip C1.TH (f0.go _) hc1, bN_s, xV_75] at pre
  have yl := (prE_len (T := E.1) (M := N + 1) 100 0 o (c + 2) kq y (by omega) hz).1
  have G := hV (E := E) (q := q) ho hD (c + 2) kq cs (tkGo (tkGo s (c + 1)) (c + 1 + 1)) j y (by omega) C2 ((f0.go _).go _) hz (by rw [h41]; decide) hK (hA.oE C.pq xg2.oe) (by omega)
  rcases G with ⟨s1, t, al, l, g1, A, gN, _⟩ | ⟨s1, vv, g1, gv, g2, g3, g4⟩
  · have A8 := A.2.2.2.2.2.2.2
    have C3 := C2.go A.2.2.2.2.2.2.1 A.2.2.2.1
    have yN := lt_z h0 gN h41 (by decide)
    obtain ⟨s3, y1, y2, y3, y4⟩ := x_27 (d := D' + 1) C3.1 (GB.of A.2.2.1 gN) hc (A.2.1.lt C.1.hn)
    rw [g1, bI_s, xV_75, y1, bN_s] at pre
    by_cases t0 : t = 0
    · rw [y3 t0, xg_75_0, xV_58, j_skip C3.TH A.2.2.1 yN, bN_s] at pre
      have xg3 : o58 s1 (tkGo s1 (y.1 + 1)) := o58.go _ _
      have A4 := A.t58 C.pq xg3 (A.2.2.1.go (y.1 + 1)) (show y.1 ≤ y.1 + 1 by omega)
      have C4 := C2.go A4.2.2.2.2.2.2.1 A4.2.2.2.1
      obtain ⟨s4, w1, w2, w3, w4, w5, w6⟩ := put1 (d := D' + 2) C4 (by omega) 7 0 (-1)
      rw [xg_75_5, C4.1.2.2.2.2.2.2.2, ycV C.pq, w1, bI_s] at pre
      refine Or.inl ⟨s4, al, l, pre, by rw [A.1, t0], ⟨by rw [w3]; exact A4.2.2.1.1, by rw [w3]; exact A4.2.2.1.2⟩, w4, (A4.2.2.2.2.1.keep w6).app w5, CP.trn (CP.o58 C.pq xg2) (CP.trn A4.2.2.2.2.2.1 (w6.mono (by omega))), xg2.oe.tr (A4.2.2.2.2.2.2.1.tr w2), by omega, by omega⟩
    · have B : BC E.1 N q E.2.1 E.2.2.1 s3 := C3.bad (by omega) y2 (y4 t0)
      obtain ⟨s4, n', w1, w2, w3, w4, w5⟩ := n_emit (d := D' + 2) B 7 0 (-1)
      rw [xg_75_0, xV_58, B.skp, bN_s, xg_75_5, B.1.2.2.2.2.2.2.2, ycV C.pq, w1, bI_s] at pre
      exact Or.inr ⟨s4, n', pre, w2, w3, xg2.C.tr (A.2.2.2.2.2.2.1.C.tr (y2.C.tr w4)), Or.inr ⟨t, al, l, A.1, t0⟩⟩
  · obtain ⟨s3, y1, y2, y3, y4⟩ := x_27 (d := D' + 1) g3.1 (GB.ob g3.2.1) hc gv
    have B : BC E.1 N q E.2.1 E.2.2.1 s3 := g3.of58' y2 (by
      by_cases h : vv = 0
      · exact Or.inl (y3 h)
      · exact Or.inr (y4 h))
    obtain ⟨s4, n', w1, w2, w3, w4, w5⟩ := n_emit (d := D' + 2) B 7 0 (-1)
    rw [g1, bI_s, xV_75, y1, bN_s, xg_75_0, xV_58, B.skp, bN_s, xg_75_5, B.1.2.2.2.2.2.2.2, ycV C.pq, w1, bI_s] at pre
    exact Or.inr ⟨s4, n', pre, w2, w3, xg2.C.tr (g4.tr (y2.C.tr w4)), Or.inl g2⟩
end MJA43
end
section
/-! ===== the Coder: if, while ===== -/
section MJA44
variable {E : EV} {d N q c t n e k u v i m o w cs c0 c1 kq nt D me i0 td kn f : Nat} {s s1 s2 s' s0 : mjSt3} {j j0 j' jb : JS} {y : PZ} {z : PB} {os : List Row} {l l1 : List Ins} {r : Row} {al : Bool} {bl : Nat → Nat → Nat → Nat → PY}
theorem CL.patch {a b : List Ins} {x y z : Int32} (h : CL q s cs (a ++ (x, y, z) :: b)) (v : Int32) : CL q (uI s (q + 26) (upd (s.1 (q + 26)) (cs + a.length) v)) cs (a ++ (x, v, z) :: b) := by
  intro i e he
  have r25 : (uI s (q + 26) (upd (s.1 (q + 26)) (cs + a.length) v)).1 (q + 25) = s.1 (q + 25) := uI_ne _ _ _ _ (by omega)
  have r27 : (uI s (q + 26) (upd (s.1 (q + 26)) (cs + a.length) v)).1 (q + 27) = s.1 (q + 27) := uI_ne _ _ _ _ (by omega)
  rw [r25, r27, uI_same, upd_g]
  by_cases g : i = a.length
  · subst g
    rw [List.getElem?_append_right (Nat.le_refl _), Nat.sub_self] at he
    cases he
    have := h a.length (x, y, z) (by rw [List.getElem?_append_right (Nat.le_refl _), Nat.sub_self]; rfl)
    rw [if_pos rfl]
    exact ⟨this.1, rfl, this.2.2⟩
  · rw [if_neg (by omega)]
    refine h i e ?_
    by_cases g2 : i < a.length
    · rw [List.getElem?_append_left g2] at he ⊢; exact he
    · rw [List.getElem?_append_right (by omega)] at he ⊢
      obtain ⟨m, hm⟩ : ∃ m, i - a.length = m + 1 := ⟨i - a.length - 1, by omega⟩
      rw [hm] at he ⊢
      exact he
theorem oE.pt (v : Int32) (m : Nat) : oE q s (uI s (q + 26) (upd (s.1 (q + 26)) m v)) := by
  refine ⟨fun h k hk => ?_, fun _ _ _ => rfl, rfl⟩
  rw [uI_ne _ _ _ _ (fun e => hk (Or.inr (Or.inr ⟨by omega, by omega⟩)))]
theorem CP.pt (v : Int32) (hm : cs ≤ m) : CP q cs s (uI s (q + 26) (upd (s.1 (q + 26)) m v)) := by
  intro i hi
  have r25 : (uI s (q + 26) (upd (s.1 (q + 26)) m v)).1 (q + 25) = s.1 (q + 25) := uI_ne _ _ _ _ (by omega)
  have r27 : (uI s (q + 26) (upd (s.1 (q + 26)) m v)).1 (q + 27) = s.1 (q + 27) := uI_ne _ _ _ _ (by omega)
  rw [r25, r27, uI_same, upd_g, if_neg (by omega)]
  exact ⟨rfl, rfl, rfl⟩
theorem ts_row (x a b : Int32) (nm : Int64) : jrow E (21, x, a, b, nm) (jE j t al) = if t = 0 then some (j, [(7, nI (E.2.2.2.2.2.2 a.toNatClampNeg), -1)]) else none := rfl
theorem jp_row (x a b : Int32) (nm : Int64) : jrow E (22, x, a, b, nm) j = some (j, [(6, nI (E.2.2.2.2.2.2 a.toNatClampNeg), -1)]) := rfl
theorem bk_row (x a b : Int32) (nm : Int64) : jrow E (23, x, a, b, nm) j = some (j, [(6, nI (E.2.2.2.2.2.2 a.toNatClampNeg), -1)]) := rfl
theorem rd_row (x a b : Int32) (nm : Int64) : jrow E (2, x, a, b, nm) j = some (j, [(11, 0, -1)]) := rfl
theorem jE2 {a b : List Row} {la : List Ins} {r : Row} {lr : List Ins} (h : jrun E a j = some (j', la)) (g : jrow E r j' = some (j0, lr)) : jrun E (a ++ r :: b) j = match jrun E b j0 with
    | none => none
    | some (j2, c2) => some (j2, la ++ lr ++ c2) := by
  rw [jrun_app, h]
  dsimp only
  rw [jcons _ _ g]
  cases jrun E b j0 with
  | none => rfl
  | some x =>
    dsimp only
    rw [List.append_assoc]
/-- ( E ) BLOCK -/
theorem grdC {x : PZ × PB} {pl a : Int32} (ho : o ≤ 12) (hD : 96 ≤ D) (h7 : hSt E N q (D + 1) 7 2 bl) (hlt : ∀ c td kq i0 x, bl c td kq i0 = .inr x → c < x.1) (hc : c < N) (C : CE E N q s j cs) (hR : RT E s) (hV : VD j) (f0 : fne s c) (hz : pGrd E.1 (N + 1) bl o c j.2.2.2.1 kq i0 = .inr x) (hK : KT E.2.2.2.1 kq (x.1.2.2.1 ++ x.2.2.2.1)) (hA : AG s (x.1.2.2.2.2 ++ x.2.2.2.2.2)) (hP : PS E i0 cs (x.1.2.2.2.1 ++ (21, pl, a, 0, 0) :: x.2.2.2.2.1) j) (hb : cs + (x.2.1 - (c + 1)) ≤ 3091) (hi0 : i0 + x.1.2.2.2.1.length + 1 + x.2.2.2.2.1.length ≤ 100000) (hkq : kq + x.1.2.2.1.length + x.2.2.2.1.length ≤ 100000) : (∃ s1 s2 jB lE lB al, mjF (D + 1) 10 [.ref 75] (mjW0 s) = some (some (.int (nI (cs + lE.length))), mjW0 s1) ∧ mjF (D + 1) 7 [.ref 75] (mjW0 s1) = some (none, mjW0 s2) ∧ jrun E x.1.2.2.2.1 j = some (jE j 0 al, lE) ∧ jrun E x.2.2.2.2.1 j = some (jB, lB) ∧ CE E N q s2 jB (cs + lE.length + 1 + lB.length) ∧ fne s2 x.2.1 ∧ CL q s2 cs (lE ++ (7, 0, -1) :: lB) ∧ CP q cs s s2 ∧ oSt q s s2 ∧ lE.length + lB.length + c + 5 ≤ x.2.1 ∧ x.2.1 ≤ N ∧ JK j jB ∧ jB.2.2.2.1 = x.2.2.1) ∨ (∃ s1 n' s2, mjF (D + 1) 10 [.ref 75] (mjW0 s) = some (some (.int (nI n')), mjW0 s1) ∧ mjF (D + 1) 7 [.ref 75] (mjW0 s1) = some (none, mjW0 s2) ∧ n' ≤ 3100 ∧ BC E.1 N q E.2.1 E.2.2.1 s2 ∧ oC q s s2 ∧ ∀ tl, jrun E (x.1.2.2.2.1 ++ (21, pl, a, 0, 0) :: (x.2.2.2.2.1 ++ tl)) j = none) := by
  have hT := C.TH
  have h0 := hT.2.2.1
  have hq' : q = 2 ∨ q = 30 := C.pq
  unfold pGrd at hz
  by_cases e40 : (E.1 (c + 1)).1 = 40
  · rw [if_pos e40] at hz
    by_cases o12 : o = 12
    · rw [if_pos o12] at hz; cases hz
    rw [if_neg o12] at hz
    cases hv : prV E.1 (N + 1) (o + 1) (c + 2) kq with
    | inl e => rw [hv] at hz; cases hz
    | inr y =>
      rw [hv] at hz
      dsimp only at hz
      have yl := (prE_len (T := E.1) (M := N + 1) 100 0 (o + 1) (c + 2) kq y (by omega) hv).1
      by_cases e41 : (E.1 y.1).1 = 41
      · rw [if_pos e41] at hz
        cases hbl : bl (y.1 + 1) j.2.2.2.1 (kq + y.2.2.1.length) (i0 + y.2.2.2.1.length + 1) with
        | inl e => rw [hbl] at hz; cases hz
        | inr z =>
          rw [hbl] at hz
          cases hz
          dsimp only at hK hA hP hb hi0 hkq ⊢
          have zl := hlt _ _ _ _ _ hbl
          have cN : c + 1 < N := lt_z h0 (show c + 1 ≤ N by omega) e40 (by decide)
          rcases x_10 (o := o + 1) (by omega) hD (show c ≤ N by omega) cN C f0 hv e41 (KT.app hK).1 (AG.app hA).1 (by omega) with ⟨s1, al, lE, g1, g2, g3, g4, g5, g6, g7, g8, g9⟩ | ⟨s1, n', g1, g2, g3, g4, g5⟩
          · have C1 : CE E N q s1 j (cs + lE.length + 1) := C.go g7 g4
            have tr := ts_row (E := E) (j := j) (t := 0) (al := al) pl a 0 0
            rw [if_pos rfl] at tr
            have P1 : PS E (i0 + (y.2.2.2.1 ++ [((21, pl, a, 0, 0) : Row)]).length) (cs + (lE ++ [((7, nI (E.2.2.2.2.2.2 a.toNatClampNeg), -1) : Ins)]).length) z.2.2.2.1 j := by
              refine PS.sub (j := j) (a := y.2.2.2.1 ++ [((21, pl, a, 0, 0) : Row)]) (b := z.2.2.2.1) (j1 := j) (l1 := lE ++ [(7, nI (E.2.2.2.2.2.2 a.toNatClampNeg), -1)]) ?_ ?_
              · rw [List.append_assoc]; exact hP
              · rw [jrun_app, g2]
                dsimp only
                rw [jrun_1, tr]
            rw [List.length_append, List.length_singleton, List.length_append, List.length_singleton, ← Nat.add_assoc, ← Nat.add_assoc] at P1
            have G := h7 (y.1 + 1) (kq + y.2.2.1.length) (i0 + y.2.2.2.1.length + 1) (cs + lE.length + 1) s1 j z g9 C1 (hR.oSt C.pq g7.S) hV g3 hbl (KT.app hK).2 ((AG.app hA).2.oSt C.pq g7.S) P1 (by omega) (by omega) (by omega)
            rcases G with ⟨s2, jB, lB, r1, ⟨b1, b2', b3, b4, b5, b6, b7, b8, b9⟩, r3⟩ | ⟨s2, r1, r2, r3, r4⟩
            · refine Or.inl ⟨s1, s2, jB, lE, lB, al, g1, r1, g2, b1, b2', b3, ?_, CP.trn g6 (b5.mono (by omega)), g7.S.tr b6, by omega, b8, b9, r3⟩
              have c1 := (g5.keep (show CP q (cs + (lE ++ [((7, 0, -1) : Ins)]).length) s1 s2 by rw [List.length_append, List.length_singleton, ← Nat.add_assoc]; exact b5)).app (show CL q s2 (cs + (lE ++ [((7, 0, -1) : Ins)]).length) lB by rw [List.length_append, List.length_singleton, ← Nat.add_assoc]; exact b4)
              rw [List.append_assoc] at c1
              exact c1
            · refine Or.inr ⟨s1, cs + lE.length, s2, g1, r1, by omega, r3, g7.C.tr r4, fun tl => ?_⟩
              rw [jE2 g2 tr, jrun_no r2]
          · obtain ⟨s2, w1, w2, w3⟩ := n_7 (d := D - 1) g3
            rw [show D - 1 + 2 = D + 1 by omega] at w1
            refine Or.inr ⟨s1, n', s2, g1, w1, g2, w2, g4.tr w3, fun tl => ?_⟩
            rcases g5 with h | ⟨t, al, l, h, ht⟩
            · exact jrun_no h
            · refine jrun_no3 h ?_
              rw [ts_row, if_neg ht]
      · rw [if_neg e41] at hz; cases hz
  · rw [if_neg e40] at hz; cases hz
/-- the head: the jump over the BLOCK comes to what follows -/
theorem x_9 {z : PB} {rest : List Row} (ho : o ≤ 12) (hD : 96 ≤ D) (h7 : hSt E N q (D + 1) 7 2 bl) (hlt : ∀ c td kq i0 x, bl c td kq i0 = .inr x → c < x.1) (hc : c < N) (C : CE E N q s j cs) (hR : RT E s) (hV : VD j) (f0 : fne s c) (hz : pIf E.1 (N + 1) bl o c j.2.2.2.1 kq i0 = .inr z) (er : z.2.2.2.1 = oLine E.1 c :: rest) (hK : KT E.2.2.2.1 kq z.2.2.1) (hA : AG s z.2.2.2.2) (hP : PS E (i0 + 1) cs rest j) (hb : cs + (z.1 - (c + 1)) ≤ 3090) (hi0 : i0 + z.2.2.2.1.length ≤ 100000) (hkq : kq + z.2.2.1.length ≤ 100000) : gSm E N q s (c + 1) cs j rest (mjF (D + 2) 9 [.ref 75] (mjW0 s)) z.1 z.2.1 := by
  have hT := C.TH
  have h0 := hT.2.2.1
  have hq' : q = 2 ∨ q = 30 := C.pq
  have pre : mjF (D + 2) 9 [.ref 75] (mjW0 s) = _ := e_9 (d := D + 1)
  unfold f_9 b_9_0 at pre
  unfold pIf at hz
  cases hg : pGrd E.1 (N + 1) bl o c j.2.2.2.1 kq (i0 + 1) with
  | inl e => rw [hg] at hz; cases hz
  | inr x =>
    obtain ⟨y, b⟩ := x
    rw [hg] at hz
    dsimp only at hz
    by_cases e16 : (E.1 b.1).1 = 16
    · rw [if_pos e16] at hz
      cases hw : bl (b.1 + 1) b.2.1 (kq + y.2.2.1.length + b.2.2.1.length) (i0 + 3 + y.2.2.2.1.length + b.2.2.2.1.length) with
      | inl e => rw [hw] at hz; cases hz
      | inr w =>
        rw [hw] at hz
        cases hz
        cases er
        dsimp only at hK hA hb hi0 hkq ⊢
        have wl := hlt _ _ _ _ _ hw
        have len1 : (oLine E.1 c :: (y.2.2.2.1 ++ (21, (E.1 c).2.1, nI (i0 + 3 + y.2.2.2.1.length + b.2.2.2.1.length), 0, 0) :: (b.2.2.2.1 ++ (22, -1, nI (i0 + 3 + y.2.2.2.1.length + b.2.2.2.1.length + w.2.2.2.1.length), 0, 0) :: w.2.2.2.1))).length = 3 + y.2.2.2.1.length + b.2.2.2.1.length + w.2.2.2.1.length := by rw [List.length_cons, List.length_append, List.length_cons, List.length_append, List.length_cons]; omega
        rw [len1] at hi0
        rw [List.length_append, List.length_append] at hkq
        have K2 := (KT.app hK).2
        rw [List.length_append, ← Nat.add_assoc] at K2
        have hP1 : PS E (i0 + 1) cs (y.2.2.2.1 ++ (21, (E.1 c).2.1, nI (i0 + 3 + y.2.2.2.1.length + b.2.2.2.1.length), 0, 0) :: b.2.2.2.1) j := by
          refine PS.prf (b := (22, -1, nI (i0 + 3 + y.2.2.2.1.length + b.2.2.2.1.length + w.2.2.2.1.length), 0, 0) :: w.2.2.2.1) ?_
          rw [List.append_assoc]; exact hP
        have G := grdC (pl := (E.1 c).2.1) (a := nI (i0 + 3 + y.2.2.2.1.length + b.2.2.2.1.length)) ho hD h7 hlt hc C hR hV f0 hg (KT.app hK).1 (AG.app hA).1 hP1 (by dsimp only; omega) (by dsimp only; omega) (by dsimp only; omega)
        dsimp only at G
        rcases G with ⟨s1, s2, jB, lE, lB, al, g1, g2, g3, g4, g5, g6, g7, g8, g9, g10, g11, g12, g13⟩ | ⟨s1, n', s2, g1, g2, g3, g4, g5, g6⟩
        · have bN := lt_z h0 g11 e16 (by decide)
          have ts := ts_row (E := E) (j := j) (t := 0) (al := al) (E.1 c).2.1 (nI (i0 + 3 + y.2.2.2.1.length + b.2.2.2.1.length)) 0 0
          rw [if_pos rfl, nI_clamp (by omega)] at ts
          have jp := jp_row (E := E) (j := jB) (-1) (nI (i0 + 3 + y.2.2.2.1.length + b.2.2.2.1.length + w.2.2.2.1.length)) 0 0
          rw [nI_clamp (by omega)] at jp
          have ja : ∀ r2, jrun E (y.2.2.2.1 ++ (21, (E.1 c).2.1, nI (i0 + 3 + y.2.2.2.1.length + b.2.2.2.1.length), 0, 0) :: (b.2.2.2.1 ++ (22, -1, nI (i0 + 3 + y.2.2.2.1.length + b.2.2.2.1.length + w.2.2.2.1.length), 0, 0) :: r2)) j = match jrun E r2 jB with
              | none => none
              | some (j2, c2) => some (j2, lE ++ [(7, nI (E.2.2.2.2.2.2 (i0 + 3 + y.2.2.2.1.length + b.2.2.2.1.length)), -1)] ++ (lB ++ [(6, nI (E.2.2.2.2.2.2 (i0 + 3 + y.2.2.2.1.length + b.2.2.2.1.length + w.2.2.2.1.length)), -1)] ++ c2)) := by
            intro r2
            rw [jE2 g3 ts, jE2 g4 jp]
            cases jrun E r2 jB with
            | none => rfl
            | some x => rfl
          have ps1 := hP (y.2.2.2.1 ++ (21, (E.1 c).2.1, nI (i0 + 3 + y.2.2.2.1.length + b.2.2.2.1.length), 0, 0) :: (b.2.2.2.1 ++ [(22, -1, nI (i0 + 3 + y.2.2.2.1.length + b.2.2.2.1.length + w.2.2.2.1.length), 0, 0)])) w.2.2.2.1 _ _ (by simp only [List.append_assoc, List.cons_append, List.nil_append]) (ja [])
          have P2 := PS.sub (a := y.2.2.2.1 ++ (21, (E.1 c).2.1, nI (i0 + 3 + y.2.2.2.1.length + b.2.2.2.1.length), 0, 0) :: (b.2.2.2.1 ++ [(22, -1, nI (i0 + 3 + y.2.2.2.1.length + b.2.2.2.1.length + w.2.2.2.1.length), 0, 0)])) (b := w.2.2.2.1) (j := j) (E := E) (i0 := i0 + 1) (cs := cs) (by rw [List.append_assoc, List.cons_append, List.append_assoc]; exact hP) (ja [])
          rw [List.append_nil] at ps1 P2
          rw [List.length_append, List.length_cons, List.length_append, List.length_singleton, List.length_append, List.length_append, List.length_singleton, List.length_append, List.length_singleton] at ps1 P2
          rw [show i0 + 1 + (y.2.2.2.1.length + (b.2.2.2.1.length + 1 + 1)) = i0 + 3 + y.2.2.2.1.length + b.2.2.2.1.length by omega, show cs + (lE.length + 1 + (lB.length + 1)) = cs + lE.length + 1 + lB.length + 1 by omega] at ps1 P2
          -- the state
          have xg : o58 s2 (tkGo s2 (b.1 + 1)) := o58.go _ _
          have C3 : CE E N q (tkGo s2 (b.1 + 1)) jB (cs + lE.length + 1 + lB.length) := g5.go xg.oe (by rw [xg.r (by omega)]; exact g5.2.2.2.2)
          obtain ⟨s4, w1, w2, w3, w4, w5, w6⟩ := put1 (d := D) C3 (by omega) 6 0 (-1)
          have C4 := C3.go w2 w4
          have x2 := x_2 (d := D) (m := cs + lE.length) C.pq w4 (by omega)
          obtain ⟨s5, hs5⟩ : ∃ z, z = uI s4 (q + 26) (upd (s4.1 (q + 26)) (cs + lE.length) (nI (cs + lE.length + 1 + lB.length + 1))) := ⟨_, rfl⟩
          have oe5 : oE q s4 s5 := by rw [hs5]; exact oE.pt _ _
          rw [← hs5] at x2
          have sz5 : s5.1 (q + 24) 3 = nI (cs + lE.length + 1 + lB.length + 1) := by rw [hs5, uI_ne _ _ _ _ (by omega)]; exact w4
          have C5 := C4.go oe5 sz5
          have r58 : s5.1 58 = (tkGo s2 (b.1 + 1)).1 58 := by rw [hs5, uI_ne _ _ _ _ (by omega), w3]
          have f5 : fne s5 (b.1 + 1) := ⟨by rw [r58]; exact (g6.go (b.1 + 1)).1, by rw [r58]; exact (g6.go (b.1 + 1)).2⟩
          have fr5 : oSt q s s5 := g9.tr (oE.S (xg.oe.tr (w2.tr oe5)))
          have lA : (lE ++ ((7, 0, -1) : Ins) :: lB).length = lE.length + 1 + lB.length := by rw [List.length_append, List.length_cons]; omega
          have cl4 : CL q s4 cs (lE ++ (7, 0, -1) :: (lB ++ [(6, 0, -1)])) := by
            have c1 := ((g7.keep (CP.o58 C.pq xg)).keep (show CP q (cs + (lE ++ ((7, 0, -1) : Ins) :: lB).length) (tkGo s2 (b.1 + 1)) s4 by rw [lA, ← Nat.add_assoc, ← Nat.add_assoc]; exact w6)).app (show CL q s4 (cs + (lE ++ ((7, 0, -1) : Ins) :: lB).length) [(6, 0, -1)] by rw [lA, ← Nat.add_assoc, ← Nat.add_assoc]; exact w5)
            rw [List.append_assoc] at c1
            exact c1
          have cl5 : CL q s5 cs (lE ++ (7, nI (cs + lE.length + 1 + lB.length + 1), -1) :: (lB ++ [(6, 0, -1)])) := by rw [hs5]; exact cl4.patch _
          have G2 := h7 (b.1 + 1) (kq + y.2.2.1.length + b.2.2.1.length) (i0 + 3 + y.2.2.2.1.length + b.2.2.2.1.length) (cs + lE.length + 1 + lB.length + 1) s5 jB w (by omega) C5 (hR.oSt C.pq fr5) (hV.jk g12) f5 (by rw [g13]; exact hw) K2 ((AG.app hA).2.oSt C.pq fr5) P2 (by omega) (by omega) (by omega)
          rw [xV_75, g1, bI_s, xV_75, g2, bN_s, xg_75_0, xV_58, j_is g5.TH g6.1 g11, bI_s, i01, if_pos e16, xg_75_0, xV_58, j_skip g5.TH g6 bN, bN_s, xg_75_5, C3.1.2.2.2.2.2.2.2, ycV C.pq, w1, bI_s, xg_75_5, C4.1.2.2.2.2.2.2.2, ycV C.pq, x2, bN_s, xV_75] at pre
          rcases G2 with ⟨s6, jC, lC, r1, ⟨b1, b2', b3, b4, b5, b6, b7, b8, b9⟩, r3⟩ | ⟨s6, r1, r2, r3, r4⟩
          · have jr := ja w.2.2.2.1
            rw [b1] at jr
            dsimp only at jr
            have ps2 := hP _ [] _ _ (List.append_nil _).symm jr
            rw [List.length_append, List.length_cons, List.length_append, List.length_cons, List.length_append, List.length_append, List.length_append, List.length_append, List.length_singleton, List.length_singleton, show i0 + 1 + (y.2.2.2.1.length + (b.2.2.2.1.length + (w.2.2.2.1.length + 1) + 1)) = i0 + 3 + y.2.2.2.1.length + b.2.2.2.1.length + w.2.2.2.1.length by omega, show cs + (lE.length + 1 + (lB.length + 1 + lC.length)) = cs + lE.length + 1 + lB.length + 1 + lC.length by omega] at ps2
            rw [ps1, ps2] at jr
            have x3 := x_2 (d := D) (m := cs + lE.length + 1 + lB.length) C.pq b2'.2.2.2.2 (by omega)
            obtain ⟨s7, hs7⟩ : ∃ z, z = uI s6 (q + 26) (upd (s6.1 (q + 26)) (cs + lE.length + 1 + lB.length) (nI (cs + lE.length + 1 + lB.length + 1 + lC.length))) := ⟨_, rfl⟩
            rw [← hs7] at x3
            have oe7 : oE q s6 s7 := by rw [hs7]; exact oE.pt _ _
            rw [r1, bN_s, xg_75_5, b2'.1.2.2.2.2.2.2.2, ycV C.pq, x3, bN_s] at pre
            have ltot : (lE ++ [((7, nI (cs + lE.length + 1 + lB.length + 1), -1) : Ins)] ++ (lB ++ [(6, nI (cs + lE.length + 1 + lB.length + 1 + lC.length), -1)] ++ lC)).length = lE.length + 1 + (lB.length + 1 + lC.length) := by
              rw [List.length_append, List.length_append, List.length_append, List.length_append, List.length_singleton, List.length_singleton]
            have sz7 : s7.1 (q + 24) 3 = nI (cs + (lE ++ [((7, nI (cs + lE.length + 1 + lB.length + 1), -1) : Ins)] ++ (lB ++ [(6, nI (cs + lE.length + 1 + lB.length + 1 + lC.length), -1)] ++ lC)).length) := by
              rw [ltot, hs7, uI_ne _ _ _ _ (by omega), b2'.2.2.2.2, show cs + (lE.length + 1 + (lB.length + 1 + lC.length)) = cs + lE.length + 1 + lB.length + 1 + lC.length by omega]
            refine Or.inl ⟨s7, jC, _, pre, ⟨jr, b2'.go oe7 sz7, ?_, ?_, ?_, fr5.tr (b6.tr oe7.S), ?_, b8, g12.trn b9⟩, r3⟩
            · have : s7.1 58 = s6.1 58 := by rw [hs7, uI_ne _ _ _ _ (by omega)]
              exact ⟨by rw [this]; exact b3.1, by rw [this]; exact b3.2⟩
            · have l5 : (lE ++ ((7, nI (cs + lE.length + 1 + lB.length + 1), -1) : Ins) :: (lB ++ [(6, 0, -1)])).length = lE.length + 1 + lB.length + 1 := by rw [List.length_append, List.length_cons, List.length_append, List.length_singleton]; omega
              have c6 := (cl5.keep (show CP q (cs + (lE ++ ((7, nI (cs + lE.length + 1 + lB.length + 1), -1) : Ins) :: (lB ++ [(6, 0, -1)])).length) s5 s6 by rw [l5, ← Nat.add_assoc, ← Nat.add_assoc, ← Nat.add_assoc]; exact b5)).app (show CL q s6 (cs + (lE ++ ((7, nI (cs + lE.length + 1 + lB.length + 1), -1) : Ins) :: (lB ++ [(6, 0, -1)])).length) lC by rw [l5, ← Nat.add_assoc, ← Nat.add_assoc, ← Nat.add_assoc]; exact b4)
              have e6 : (lE ++ ((7, nI (cs + lE.length + 1 + lB.length + 1), -1) : Ins) :: (lB ++ [(6, 0, -1)])) ++ lC = (lE ++ (7, nI (cs + lE.length + 1 + lB.length + 1), -1) :: lB) ++ (6, 0, -1) :: lC := by simp only [List.append_assoc, List.cons_append, List.nil_append]
              rw [e6] at c6
              have c7 := c6.patch (nI (cs + lE.length + 1 + lB.length + 1 + lC.length))
              have la7 : (lE ++ ((7, nI (cs + lE.length + 1 + lB.length + 1), -1) : Ins) :: lB).length = lE.length + 1 + lB.length := by rw [List.length_append, List.length_cons]; omega
              rw [la7, ← Nat.add_assoc, ← Nat.add_assoc, ← hs7] at c7
              have e7 : lE ++ [((7, nI (cs + lE.length + 1 + lB.length + 1), -1) : Ins)] ++ (lB ++ [(6, nI (cs + lE.length + 1 + lB.length + 1 + lC.length), -1)] ++ lC) = (lE ++ (7, nI (cs + lE.length + 1 + lB.length + 1), -1) :: lB) ++ (6, nI (cs + lE.length + 1 + lB.length + 1 + lC.length), -1) :: lC := by simp only [List.append_assoc, List.cons_append, List.nil_append]
              rw [e7]
              exact c7
            · have p5 : CP q cs s4 s5 := by rw [hs5]; exact CP.pt _ (by omega)
              have p7 : CP q cs s6 s7 := by rw [hs7]; exact CP.pt _ (by omega)
              exact CP.trn g8 (CP.trn (CP.o58 C.pq xg) (CP.trn (w6.mono (by omega)) (CP.trn p5 (CP.trn (b5.mono (by omega)) p7))))
            · rw [ltot]; omega
          · obtain ⟨s7, v1, v2, v3, v4, v5⟩ := x_2B (d := D) (m := cs + lE.length + 1 + lB.length) C.pq r3.2.2.1.choose_spec.2 (by omega)
            have B7 : BC E.1 N q E.2.1 E.2.2.1 s7 := r3.oo v2 ⟨by rw [v3]; exact r3.2.1.1, by rw [v3]; exact r3.2.1.2⟩ (by rw [v5]; exact r3.2.2.1) (by rw [v4]; exact r3.2.2.2)
            rw [r1, bN_s, xg_75_5, r3.1.2.2.2.2.2.2.2, ycV C.pq, v1, bN_s] at pre
            refine Or.inr ⟨s7, pre, ?_, B7, fr5.C.tr (r4.tr v2)⟩
            rw [ja, r2]
        · obtain ⟨s3, w1, w2, w3, w4, w5⟩ := x_2B (d := D) (m := n') C.pq g4.2.2.1.choose_spec.2 g3
          have B3 : BC E.1 N q E.2.1 E.2.2.1 s3 := g4.oo w2 ⟨by rw [w3]; exact g4.2.1.1, by rw [w3]; exact g4.2.1.2⟩ (by rw [w5]; exact g4.2.2.1) (by rw [w4]; exact g4.2.2.2)
          rw [xV_75, g1, bI_s, xV_75, g2, bN_s, xg_75_0, xV_58, kN0 g4 (by decide), bI_s, if_pos rfl, xg_75_5, g4.1.2.2.2.2.2.2.2, ycV C.pq, w1, bN_s] at pre
          exact Or.inr ⟨s3, pre, g6 _, B3, g5.tr w2⟩
    · rw [if_neg e16] at hz
      cases hz
      cases er
      dsimp only at hK hA hb hi0 hkq ⊢
      have len1 : (oLine E.1 c :: (y.2.2.2.1 ++ (21, (E.1 c).2.1, nI (i0 + 2 + y.2.2.2.1.length + b.2.2.2.1.length), 0, 0) :: b.2.2.2.1)).length = 2 + y.2.2.2.1.length + b.2.2.2.1.length := by rw [List.length_cons, List.length_append, List.length_cons]; omega
      rw [len1] at hi0
      rw [List.length_append] at hkq
      have G := grdC (pl := (E.1 c).2.1) (a := nI (i0 + 2 + y.2.2.2.1.length + b.2.2.2.1.length)) ho hD h7 hlt hc C hR hV f0 hg hK hA hP (by dsimp only; omega) (by dsimp only; omega) (by dsimp only; omega)
      dsimp only at G
      rcases G with ⟨s1, s2, jB, lE, lB, al, g1, g2, g3, g4, g5, g6, g7, g8, g9, g10, g11, g12, g13⟩ | ⟨s1, n', s2, g1, g2, g3, g4, g5, g6⟩
      · have ts := ts_row (E := E) (j := j) (t := 0) (al := al) (E.1 c).2.1 (nI (i0 + 2 + y.2.2.2.1.length + b.2.2.2.1.length)) 0 0
        rw [if_pos rfl, nI_clamp (by omega)] at ts
        have jr := jE2 (b := b.2.2.2.1) g3 ts
        rw [g4] at jr
        dsimp only at jr
        have ps := hP _ [] _ _ (List.append_nil _).symm jr
        rw [List.length_append, List.length_cons, List.length_append, List.length_append, List.length_singleton, show i0 + 1 + (y.2.2.2.1.length + (b.2.2.2.1.length + 1)) = i0 + 2 + y.2.2.2.1.length + b.2.2.2.1.length by omega] at ps
        rw [ps] at jr
        have cp := g7.patch (nI (cs + (lE.length + 1 + lB.length)))
        have x2 := x_2 (d := D) (m := cs + lE.length) C.pq g5.2.2.2.2 (by omega)
        rw [xV_75, g1, bI_s, xV_75, g2, bN_s, xg_75_0, xV_58, j_is g5.TH g6.1 g11, bI_s, i01, if_neg e16, xg_75_5, g5.1.2.2.2.2.2.2.2, ycV C.pq, x2, bN_s, show cs + lE.length + 1 + lB.length = cs + (lE.length + 1 + lB.length) by omega] at pre
        have oe := oE.pt (q := q) (s := s2) (nI (cs + (lE.length + 1 + lB.length))) (cs + lE.length)
        have sz : (uI s2 (q + 26) (upd (s2.1 (q + 26)) (cs + lE.length) (nI (cs + (lE.length + 1 + lB.length))))).1 (q + 24) 3 = nI (cs + (lE ++ [((7, nI (cs + (lE.length + 1 + lB.length)), -1) : Ins)] ++ lB).length) := by
          rw [uI_ne _ _ _ _ (by omega), g5.2.2.2.2, List.length_append, List.length_append, List.length_singleton]
          rw [show cs + lE.length + 1 + lB.length = cs + (lE.length + 1 + lB.length) by omega]
        refine Or.inl ⟨_, jB, lE ++ [(7, nI (cs + (lE.length + 1 + lB.length)), -1)] ++ lB, pre, ⟨jr, g5.go oe sz, ?_, ?_, CP.trn g8 (CP.pt _ (by omega)), g9.tr oe.S, ?_, g11, g12⟩, g13⟩
        · exact ⟨by rw [uI_ne _ _ _ _ (by omega)]; exact g6.1, by rw [uI_ne _ _ _ _ (by omega)]; exact g6.2⟩
        · rw [List.append_assoc]; exact cp
        · rw [List.length_append, List.length_append, List.length_singleton]; omega
      · obtain ⟨s3, w1, w2, w3, w4, w5⟩ := x_2B (d := D) (m := n') C.pq g4.2.2.1.choose_spec.2 g3
        have B3 : BC E.1 N q E.2.1 E.2.2.1 s3 := g4.oo w2 ⟨by rw [w3]; exact g4.2.1.1, by rw [w3]; exact g4.2.1.2⟩ (by rw [w5]; exact g4.2.2.1) (by rw [w4]; exact g4.2.2.2)
        rw [xV_75, g1, bI_s, xV_75, g2, bN_s, xg_75_0, xV_58, kN0 g4 (by decide), bI_s, if_pos rfl, xg_75_5, g4.1.2.2.2.2.2.2.2, ycV C.pq, w1, bN_s] at pre
        have := g6 []
        rw [List.append_nil] at this
        exact Or.inr ⟨s3, pre, this, B3, g5.tr w2⟩
end MJA44
end
section
/-! ===== the Coder: while; STATEMENTS ===== -/
section MJA45
variable {E : EV} {d N q c t n e k u v i m o w cs c0 c1 kq nt D me i0 td kn f : Nat} {s s1 s2 s' s0 : mjSt3} {j j0 j' jb : JS} {y : PZ} {z : PB} {os : List Row} {l l1 : List Ins} {r : Row} {al : Bool} {bl : Nat → Nat → Nat → Nat → PY}
theorem x_31 {z : PB} {rest : List Row} (ho : o ≤ 12) (hD : 96 ≤ D) (h7 : hSt E N q (D + 1) 7 2 bl) (hlt : ∀ c td kq i0 x, bl c td kq i0 = .inr x → c < x.1) (hc : c < N) (C : CE E N q s j cs) (hR : RT E s) (hV : VD j) (f0 : fne s c) (hz : pWhile E.1 (N + 1) bl o c j.2.2.2.1 kq i0 = .inr z) (er : z.2.2.2.1 = oLine E.1 c :: rest) (hK : KT E.2.2.2.1 kq z.2.2.1) (hA : AG s z.2.2.2.2) (hP : PS E (i0 + 1) cs rest j) (hb : cs + (z.1 - (c + 1)) ≤ 3090) (hi0 : i0 + z.2.2.2.1.length ≤ 100000) (hkq : kq + z.2.2.1.length ≤ 100000) : gSm E N q s (c + 1) cs j rest (mjF (D + 2) 31 [.ref 75] (mjW0 s)) z.1 z.2.1 := by
  have hT := C.TH
  have h0 := hT.2.2.1
  have hq' : q = 2 ∨ q = 30 := C.pq
  have pre : mjF (D + 2) 31 [.ref 75] (mjW0 s) = _ := e_31 (d := D + 1)
  unfold f_31 b_31_0 at pre
  unfold pWhile at hz
  cases hg : pGrd E.1 (N + 1) bl o c j.2.2.2.1 kq (i0 + 2) with
  | inl e => rw [hg] at hz; cases hz
  | inr x =>
    obtain ⟨y, b⟩ := x
    rw [hg] at hz
    cases hz
    cases er
    dsimp only at hK hA hb hi0 hkq ⊢
    have len1 : (oLine E.1 c :: (2, (E.1 c).2.1, 0, 0, 0) :: (y.2.2.2.1 ++ (21, (E.1 c).2.1, nI (i0 + 4 + y.2.2.2.1.length + b.2.2.2.1.length), 0, 0) :: (b.2.2.2.1 ++ [(23, -1, nI (i0 + 1), 0, 0)]))).length = 4 + y.2.2.2.1.length + b.2.2.2.1.length := by rw [List.length_cons, List.length_cons, List.length_append, List.length_cons, List.length_append, List.length_singleton]; omega
    rw [len1] at hi0
    rw [List.length_append] at hkq
    have rr := rd_row (E := E) (j := j) (E.1 c).2.1 0 0 0
    have hPb : PS E (i0 + 2) (cs + 1) (y.2.2.2.1 ++ (21, (E.1 c).2.1, nI (i0 + 4 + y.2.2.2.1.length + b.2.2.2.1.length), 0, 0) :: (b.2.2.2.1 ++ [(23, -1, nI (i0 + 1), 0, 0)])) j := by
      have := PS.sub (a := [(2, (E.1 c).2.1, 0, 0, 0)]) (j1 := j) (l1 := [(11, 0, -1)]) hP (by rw [jrun_1]; exact rr)
      exact this
    have hP1 : PS E (i0 + 2) (cs + 1) (y.2.2.2.1 ++ (21, (E.1 c).2.1, nI (i0 + 4 + y.2.2.2.1.length + b.2.2.2.1.length), 0, 0) :: b.2.2.2.1) j := by
      refine PS.prf (b := [(23, -1, nI (i0 + 1), 0, 0)]) ?_
      rw [List.append_assoc]; exact hPb
    have ps0 : E.2.2.2.2.2.2 (i0 + 1) = cs := hP [] _ j [] rfl rfl
    have gl : c + 1 < b.1 := by
      have hg' := hg
      unfold pGrd at hg'
      by_cases e40 : (E.1 (c + 1)).1 = 40
      · rw [if_pos e40] at hg'
        by_cases o12 : o = 12
        · rw [if_pos o12] at hg'; cases hg'
        rw [if_neg o12] at hg'
        cases hv : prV E.1 (N + 1) (o + 1) (c + 2) kq with
        | inl e => rw [hv] at hg'; cases hg'
        | inr v =>
          rw [hv] at hg'
          dsimp only at hg'
          have hl := (prE_len (T := E.1) (M := N + 1) 100 0 (o + 1) (c + 2) kq v (by omega) hv).1
          by_cases g : (E.1 v.1).1 = 41
          · rw [if_pos g] at hg'
            cases hbb : bl (v.1 + 1) j.2.2.2.1 (kq + v.2.2.1.length) (i0 + 2 + v.2.2.2.1.length + 1) with
            | inl e => rw [hbb] at hg'; cases hg'
            | inr w =>
              rw [hbb] at hg'
              cases hg'
              have := hlt _ _ _ _ _ hbb
              omega
          · rw [if_neg g] at hg'; cases hg'
      · rw [if_neg e40] at hg'; cases hg'
    obtain ⟨s1, w1, w2, w3, w4, w5, w6⟩ := put1 (d := D) C (by omega) 11 0 (-1)
    have C1 := C.go w2 w4
    have f1 : fne s1 c := ⟨by rw [w3]; exact f0.1, by rw [w3]; exact f0.2⟩
    rw [xg_75_5, C.1.2.2.2.2.2.2.2, ycV C.pq, w1, bI_s, xV_75] at pre
    have bb : cs + 1 + (b.1 - (c + 1)) ≤ 3091 := by omega
    have G := grdC (cs := cs + 1) (pl := (E.1 c).2.1) (a := nI (i0 + 4 + y.2.2.2.1.length + b.2.2.2.1.length)) ho hD h7 hlt hc C1 (hR.oSt C.pq w2.S) hV f1 hg hK (hA.oSt C.pq w2.S) hP1 (by dsimp only; omega) (by dsimp only; omega) (by dsimp only; omega)
    dsimp only at G
    have j0r : ∀ r2, jrun E ((2, (E.1 c).2.1, 0, 0, 0) :: r2) j = match jrun E r2 j with
        | none => none
        | some (j2, c2) => some (j2, [(11, 0, -1)] ++ c2) := fun r2 => jcons _ _ rr
    rcases G with ⟨s1', s2, jB, lE, lB, al, g1, g2, g3, g4, g5, g6, g7, g8, g9, g10, g11, g12, g13⟩ | ⟨s1', n', s2, g1, g2, g3, g4, g5, g6⟩
    · have ts := ts_row (E := E) (j := j) (t := 0) (al := al) (E.1 c).2.1 (nI (i0 + 4 + y.2.2.2.1.length + b.2.2.2.1.length)) 0 0
      rw [if_pos rfl, nI_clamp (by omega)] at ts
      have bk := bk_row (E := E) (j := jB) (-1) (nI (i0 + 1)) 0 0
      rw [nI_clamp (by omega), ps0] at bk
      have jr : jrun E ((2, (E.1 c).2.1, 0, 0, 0) :: (y.2.2.2.1 ++ (21, (E.1 c).2.1, nI (i0 + 4 + y.2.2.2.1.length + b.2.2.2.1.length), 0, 0) :: (b.2.2.2.1 ++ [(23, -1, nI (i0 + 1), 0, 0)]))) j = some (jB, [(11, 0, -1)] ++ (lE ++ [(7, nI (E.2.2.2.2.2.2 (i0 + 4 + y.2.2.2.1.length + b.2.2.2.1.length)), -1)] ++ (lB ++ [(6, nI cs, -1)]))) := by
        rw [j0r, jE2 g3 ts, jrun_app, g4]
        dsimp only
        rw [jrun_1, bk]
      have ps := hP _ [] _ _ (List.append_nil _).symm jr
      rw [List.length_cons, List.length_append, List.length_cons, List.length_append, List.length_singleton, List.length_append, List.length_append, List.length_append, List.length_append, List.length_singleton, List.length_singleton, List.length_singleton, show i0 + 1 + (y.2.2.2.1.length + (b.2.2.2.1.length + 1 + 1) + 1) = i0 + 4 + y.2.2.2.1.length + b.2.2.2.1.length by omega, show cs + (1 + (lE.length + 1 + (lB.length + 1))) = cs + 1 + lE.length + 1 + lB.length + 1 by omega] at ps
      rw [ps] at jr
      obtain ⟨s3, v1, v2, v3, v4, v5, v6⟩ := put1 (d := D) g5 (by omega) 6 (nI cs) (-1)
      have C3 := g5.go v2 v4
      have x2 := x_2 (d := D) (m := cs + 1 + lE.length) C.pq v4 (by omega)
      obtain ⟨s4, hs4⟩ : ∃ z, z = uI s3 (q + 26) (upd (s3.1 (q + 26)) (cs + 1 + lE.length) (nI (cs + 1 + lE.length + 1 + lB.length + 1))) := ⟨_, rfl⟩
      rw [← hs4] at x2
      have oe4 : oE q s3 s4 := by rw [hs4]; exact oE.pt _ _
      rw [g1, bI_s, xV_75, g2, bN_s, xg_75_5, g5.1.2.2.2.2.2.2.2, ycV C.pq, v1, bI_s, xg_75_5, C3.1.2.2.2.2.2.2.2, ycV C.pq, x2, bN_s] at pre
      have ltot : ([((11, 0, -1) : Ins)] ++ (lE ++ [(7, nI (cs + 1 + lE.length + 1 + lB.length + 1), -1)] ++ (lB ++ [(6, nI cs, -1)]))).length = 1 + (lE.length + 1 + (lB.length + 1)) := by
        rw [List.length_append, List.length_append, List.length_append, List.length_append, List.length_singleton, List.length_singleton, List.length_singleton]
      have sz4 : s4.1 (q + 24) 3 = nI (cs + ([((11, 0, -1) : Ins)] ++ (lE ++ [(7, nI (cs + 1 + lE.length + 1 + lB.length + 1), -1)] ++ (lB ++ [(6, nI cs, -1)]))).length) := by
        rw [ltot, hs4, uI_ne _ _ _ _ (by omega), v4, show cs + (1 + (lE.length + 1 + (lB.length + 1))) = cs + 1 + lE.length + 1 + lB.length + 1 by omega]
      have p4 : ∀ k, k ≤ cs + 1 → CP q k s3 s4 := fun k hk => by rw [hs4]; exact CP.pt _ (by omega)
      refine Or.inl ⟨s4, jB, _, pre, ⟨jr, g5.go (v2.tr oe4) sz4, ?_, ?_, ?_, w2.S.tr (g9.tr (oE.S (v2.tr oe4))), ?_, g11, g12⟩, g13⟩
      · have : s4.1 58 = s2.1 58 := by rw [hs4, uI_ne _ _ _ _ (by omega), v3]
        exact ⟨by rw [this]; exact g6.1, by rw [this]; exact g6.2⟩
      · have lA : (lE ++ ((7, 0, -1) : Ins) :: lB).length = lE.length + 1 + lB.length := by rw [List.length_append, List.length_cons]; omega
        have c3 := (g7.keep (show CP q (cs + 1 + (lE ++ ((7, 0, -1) : Ins) :: lB).length) s2 s3 by rw [lA, ← Nat.add_assoc, ← Nat.add_assoc]; exact v6)).app (show CL q s3 (cs + 1 + (lE ++ ((7, 0, -1) : Ins) :: lB).length) [(6, nI cs, -1)] by rw [lA, ← Nat.add_assoc, ← Nat.add_assoc]; exact v5)
        rw [List.append_assoc] at c3
        have c4 := CL.patch (a := lE) (b := lB ++ [(6, nI cs, -1)]) (x := 7) (y := 0) (z := -1) c3 (nI (cs + 1 + lE.length + 1 + lB.length + 1))
        rw [← hs4] at c4
        have c1 : CL q s4 cs [(11, 0, -1)] := (w5.keep (show CP q (cs + [((11, 0, -1) : Ins)].length) s1 s2 from g8)).keep (show CP q (cs + [((11, 0, -1) : Ins)].length) s2 s4 from CP.trn (v6.mono (by show cs + 1 ≤ _; omega)) (p4 _ (by show cs + 1 ≤ _; omega)))
        have c5 := c1.app (show CL q s4 (cs + [((11, 0, -1) : Ins)].length) _ from c4)
        have e5 : [((11, 0, -1) : Ins)] ++ (lE ++ [(7, nI (cs + 1 + lE.length + 1 + lB.length + 1), -1)] ++ (lB ++ [(6, nI cs, -1)])) = [(11, 0, -1)] ++ (lE ++ (7, nI (cs + 1 + lE.length + 1 + lB.length + 1), -1) :: (lB ++ [(6, nI cs, -1)])) := by simp only [List.append_assoc, List.cons_append, List.nil_append]
        rw [e5]
        exact c5
      · exact CP.trn w6 (CP.trn (g8.mono (by omega)) (CP.trn (v6.mono (by omega)) (p4 _ (by omega))))
      · rw [ltot]; omega
    · obtain ⟨s3, n2, v1, v2, v3, v4, v5⟩ := n_emit (d := D) g4 6 (nI cs) (-1)
      obtain ⟨s4, x1, x2, x3, x4, x5⟩ := x_2B (d := D) (m := n') C.pq v3.2.2.1.choose_spec.2 g3
      have B4 : BC E.1 N q E.2.1 E.2.2.1 s4 := v3.oo x2 ⟨by rw [x3]; exact v3.2.1.1, by rw [x3]; exact v3.2.1.2⟩ (by rw [x5]; exact v3.2.2.1) (by rw [x4]; exact v3.2.2.2)
      rw [g1, bI_s, xV_75, g2, bN_s, xg_75_5, g4.1.2.2.2.2.2.2.2, ycV C.pq, v1, bI_s, xg_75_5, v3.1.2.2.2.2.2.2.2, ycV C.pq, x1, bN_s] at pre
      refine Or.inr ⟨s4, pre, ?_, B4, w2.C.tr (g5.tr (v4.tr x2))⟩
      rw [j0r, g6]
end MJA45
end
section
/-! ===== the Coder: all STATEMENTS ===== -/
section MJA46a
variable {T : TT} {M o c td kq i0 : Nat} {z : PB} {bl : Nat → Nat → Nat → Nat → PY}
theorem pDecl_l (h : pDecl T M o c td kq = .inr z) : ∃ rest, z.2.2.2.1 = oLine T c :: rest := by
  unfold pDecl at h
  repeat' (split at h)
  all_goals first | (cases h; exact ⟨_, rfl⟩) | cases h
theorem pUse_l (h : pUse T M o c td kq i0 = .inr z) : ∃ rest, z.2.2.2.1 = oLine T c :: rest := by
  unfold pUse at h
  repeat' (split at h)
  all_goals first | (cases h; exact ⟨_, rfl⟩) | cases h
theorem pIf_l (h : pIf T M bl o c td kq i0 = .inr z) : ∃ rest, z.2.2.2.1 = oLine T c :: rest := by
  unfold pIf at h
  repeat' (split at h)
  all_goals first | (cases h; exact ⟨_, rfl⟩) | cases h
theorem pWhile_l (h : pWhile T M bl o c td kq i0 = .inr z) : ∃ rest, z.2.2.2.1 = oLine T c :: rest := by
  unfold pWhile at h
  repeat' (split at h)
  all_goals first | (cases h; exact ⟨_, rfl⟩) | cases h
end MJA46a
section MJA46
variable {E : EV} {d N q c t n e k u v i m o w cs c0 c1 kq nt D me i0 td kn f : Nat} {s s1 s2 s' s0 : mjSt3} {j j0 j' jb : JS} {y : PZ} {z : PB} {os : List Row} {l l1 : List Ins} {r : Row} {al : Bool}
theorem gSm.weak {U : mjU} {c' : Nat} (G : gSm E N q s c1 cs j os U c' td) (h : c0 ≤ c1) : gSm E N q s c0 cs j os U c' td := by
  rcases G with ⟨s', j', l, g1, ⟨a1, a2, a3, a4, a5, a6, a7, a8, a9⟩, g3⟩ | g
  · exact Or.inl ⟨s', j', l, g1, ⟨a1, a2, a3, a4, a5, a6, by omega, a8, a9⟩, g3⟩
  · exact Or.inr g
/-- codeStatement -/
theorem x_8 (ho : o ≤ 12) (hD : 96 ≤ D) (h7a : hSt E N q (D + 2) 7 2 (prS E.1 (N + 1) f 0 o)) (h7b : hSt E N q (D + 1) 7 2 (prS E.1 (N + 1) f 0 o)) : hSt E N q (D + 3) 8 0 (prS E.1 (N + 1) (f + 1) 1 o) := by
  intro c kq i0 cs s j z hc C hR hV f0 hz hK hA hP hb hi0 hkq
  have hT := C.TH
  have h0 := hT.2.2.1
  have hq' : q = 2 ∨ q = 30 := C.pq
  have hlt : ∀ c td kq i0 x, prS E.1 (N + 1) f 0 o c td kq i0 = .inr x → c < x.1 := fun c td kq i0 x hx => prS_lt f 0 o c td kq i0 x (by omega) hx
  have zlt := prS_lt (f + 1) 1 o c _ kq i0 z (by omega) hz
  have pre : mjF (D + 3) 8 [.ref 75] (mjW0 s) = _ := e_8 (d := D + 2)
  have kn : mjF (D + 2) 173 [.ref 58] (mjW0 s) = some (some (.int (E.1 c).1), mjW0 s) := by
    rw [x_kindNow (tk_f hT f0 hc), (hT.2.2.2 c hc).1]
  unfold f_8 b_8_0 at pre
  rw [xg_75_0, xV_58, kn, bI_s] at pre
  rw [prS_1] at hz
  by_cases e123 : (E.1 c).1 = 123
  · rw [if_neg (by rw [e123]; decide), if_neg (by rw [e123]; decide), if_neg (by rw [e123]; decide), if_neg (by rw [e123]; decide), if_neg (by rw [e123]; decide), if_pos e123] at hz
    rw [if_pos e123] at pre
    unfold b_8_39 at pre
    rw [if_neg (by rw [e123]; decide), if_neg (by rw [e123]; decide), if_neg (by rw [e123]; decide), if_neg (by rw [e123]; decide), if_neg (by rw [e123]; decide), if_neg (by rw [e123]; decide), if_pos e123, xV_75] at pre
    have G := h7a c kq i0 cs s j z hc C hR hV f0 hz hK hA hP hb hi0 hkq
    have e : mjF (D + 3) 8 [.ref 75] (mjW0 s) = mjF (D + 2) 7 [.ref 75] (mjW0 s) := by
      rcases G with ⟨s', j', l, g1, _⟩ | ⟨s', g1, _⟩
      · rw [g1, bN_s] at pre; rw [pre, g1]
      · rw [g1, bN_s] at pre; rw [pre, g1]
    rw [e]
    exact G.weak (by omega)
  · rw [if_neg e123] at pre
    obtain ⟨s1, w1, w2, w3, w4, w5, w6⟩ := put1 (d := D + 1) C (by omega) 10 0 (E.1 c).2.1
    have C1 := C.go w2 w4
    have f1 : fne s1 c := ⟨by rw [w3]; exact f0.1, by rw [w3]; exact f0.2⟩
    have R1 := hR.oSt C.pq w2.S
    have A1 := hA.oSt C.pq w2.S
    rw [xg_75_5, C.1.2.2.2.2.2.2.2, xg_75_0, xg_75_0, xV_58, j_now hT f0.1 hc, bI_s, xV_58, j_place hT f0.1 hc hc, bI_s, ycV C.pq, w1, bI_s] at pre
    have lr : jrow E (oLine E.1 c) j = some (j, [(10, 0, (E.1 c).2.1)]) := rfl
    -- behind the LINE
    have main : ∀ rest, z.2.2.2.1 = oLine E.1 c :: rest → PS E (i0 + 1) (cs + 1) rest j := by
      intro rest e
      rw [e] at hP
      exact PS.sub (a := [oLine E.1 c]) (j1 := j) (l1 := [(10, 0, (E.1 c).2.1)]) hP (by rw [jrun_1]; exact lr)
    have fin : ∀ rest U, z.2.2.2.1 = oLine E.1 c :: rest → mjF (D + 3) 8 [.ref 75] (mjW0 s) = U → gSm E N q s1 (c + 1) (cs + 1) j rest U z.1 z.2.1 → gSm E N q s (c + 0) cs j z.2.2.2.1 (mjF (D + 3) 8 [.ref 75] (mjW0 s)) z.1 z.2.1 := by
      intro rest U e eu G
      rw [e, eu]
      exact gSm.one C lr w2 w5 w6 G
    -- what a call of a method gives
    have same : ∀ (rest : List Row) (a : Nat), z.2.2.2.1 = oLine E.1 c :: rest → mjF (D + 3) 8 [.ref 75] (mjW0 s) = bN (mjF (D + 2) a [.ref 75] (mjW0 s1)) (fun hp => some (none, hp)) → gSm E N q s1 (c + 1) (cs + 1) j rest (mjF (D + 2) a [.ref 75] (mjW0 s1)) z.1 z.2.1 → gSm E N q s (c + 0) cs j z.2.2.2.1 (mjF (D + 3) 8 [.ref 75] (mjW0 s)) z.1 z.2.1 := by
      intro rest a e eu G
      refine fin rest (mjF (D + 2) a [.ref 75] (mjW0 s1)) e ?_ G
      rcases G with ⟨s', j', l, g1, _⟩ | ⟨s', g1, _⟩
      · rw [g1, bN_s] at eu; rw [eu, g1]
      · rw [g1, bN_s] at eu; rw [eu, g1]
    unfold b_8_39 at pre
    by_cases e1 : (E.1 c).1 = 2 ∨ (E.1 c).1 = 10
    · rw [if_pos e1] at hz
      obtain ⟨rest, er⟩ := pDecl_l hz
      have G := declC (D := D + 1) ho (by omega) hc C1 f1 hz er hK A1 (by omega) (by omega)
      refine fin rest _ er ?_ G
      rcases e1 with h | h
      · rw [if_pos h] at pre; exact pre
      · rw [if_neg (by rw [h]; decide), if_pos h] at pre; exact pre
    rw [if_neg e1] at hz
    rw [if_neg (fun h => e1 (Or.inl h)), if_neg (fun h => e1 (Or.inr h))] at pre
    by_cases e15 : (E.1 c).1 = 15
    · rw [if_pos e15] at hz pre
      rw [xV_75] at pre
      obtain ⟨rest, er⟩ := pIf_l hz
      have cN := lt_z h0 hc e15 (by decide)
      exact same rest 9 er pre (x_9 ho hD h7b hlt cN C1 R1 hV f1 hz er hK A1 (main rest er) (by omega) hi0 hkq)
    rw [if_neg e15] at hz pre
    by_cases e17 : (E.1 c).1 = 17
    · rw [if_pos e17] at hz pre
      rw [xV_75] at pre
      obtain ⟨rest, er⟩ := pWhile_l hz
      have cN := lt_z h0 hc e17 (by decide)
      exact same rest 31 er pre (x_31 ho hD h7b hlt cN C1 R1 hV f1 hz er hK A1 (main rest er) (by omega) hi0 hkq)
    rw [if_neg e17] at hz pre
    -- return, say
    have giv : ∀ (w : Int32) (ty : Nat) (op : Int32), vT E.2.1 ty → c < N → pGive E.1 (N + 1) o c j.2.2.2.1 kq w = .inr z → (∀ t al, (fitT E.1 E.2.1 t ty = true → jrow E (w, (E.1 c).2.1, 1, 0, 0) (jE j t al) = some (j, [(op, 0, -1)])) ∧ (¬ fitT E.1 E.2.1 t ty = true → jrow E (w, (E.1 c).2.1, 1, 0, 0) (jE j t al) = none)) → mjF (D + 3) 8 [.ref 75] (mjW0 s) = bN (mjF (D + 2) 32 [.ref 75, .int (tyI ty)] (mjW0 s1)) (fun hp9 => gR hp9 75 1 5 (fun v10 => rV hp9 v10 0 (bI (mjF (D + 2) 1 [.ref v10, .int op, .int 0, .int (-1)] hp9) (fun v11 hp12 => some (none, hp12))))) → gSm E N q s (c + 0) cs j z.2.2.2.1 (mjF (D + 3) 8 [.ref 75] (mjW0 s)) z.1 z.2.1 := by
      intro w ty op hv hcN hg hr pr
      unfold pGive at hg
      cases hx : prV E.1 (N + 1) o (c + 1) kq with
      | inl e => rw [hx] at hg; cases hg
      | inr y =>
        rw [hx] at hg
        dsimp only at hg
        by_cases h59 : (E.1 y.1).1 = 59
        · rw [if_pos h59] at hg
          cases hg
          dsimp only at hK hA A1 hb ⊢
          obtain ⟨sa, g1, g2, sb, v, g3, g4⟩ := giveC (D := D + 1) (r := (w, (E.1 c).2.1, 1, 0, 0)) (op := op) ho (by omega) hcN C1 f1 hx h59 hK A1 (by omega) hv hr
          rw [g1, bN_s, xg_75_5, g2, ycV C.pq, g3, bI_s] at pr
          exact fin _ _ rfl pr g4
        · rw [if_neg h59] at hg; cases hg
    by_cases e18 : (E.1 c).1 = 18
    · rw [if_pos e18] at hz pre
      rw [xg_75_7, R1.1, xV_75] at pre
      exact giv 28 _ 9 R1.2 (lt_z h0 hc e18 (by decide)) hz (fun t al => ⟨fun h => by rw [give_row, if_pos h], fun h => by rw [give_row, if_neg h]⟩) pre
    rw [if_neg e18] at hz pre
    by_cases e19 : (E.1 c).1 = 19
    · rw [if_pos e19] at hz pre
      rw [xV_75] at pre
      exact giv 24 0 8 (Or.inl rfl) (lt_z h0 hc e19 (by decide)) hz (fun t al => ⟨fun h => by rw [say_row, if_pos (fit_int.mp h)], fun h => by rw [say_row, if_neg (fun x => h (fit_int.mpr x))]⟩) pre
    rw [if_neg e19] at hz pre
    rw [if_neg e123] at hz pre
    rw [xV_75] at pre
    obtain ⟨rest, er⟩ := pUse_l hz
    exact fin rest _ er pre (useC (D := D + 1) ho (by omega) hc C1 f1 hz er hK A1 (by omega))
/-- how deep STATEMENTS go -/
theorem hSt_no {x : Nat} {rd : Nat → Nat → Nat → Nat → PY} (h : ∀ c td kq i0 x, ¬ rd c td kq i0 = .inr x) : hSt E N q D me x rd := by
  intro c kq i0 cs s j z _ _ _ _ _ hz
  exact absurd hz (h _ _ _ _ z)
theorem hSt_all : ∀ (f : Nat) (o : Nat), o ≤ 12 → (∀ D, 99 + 3 * (13 - o) ≤ D → hSt E N q D 8 0 (prS E.1 (N + 1) f 1 o)) ∧ (∀ D, 97 + 3 * (13 - o) ≤ D → hSt E N q D 7 2 (prS E.1 (N + 1) f 0 o))
  | 0, o, _ => ⟨fun D _ => hSt_no (fun _ _ _ _ _ h => by cases h), fun D _ => hSt_no (fun _ _ _ _ _ h => by cases h)⟩
  | f + 1, o, ho => by
    refine ⟨fun D hD => ?_, fun D hD => ?_⟩
    · obtain ⟨D', rfl⟩ : ∃ D', D = D' + 3 := ⟨D - 3, by omega⟩
      exact x_8 ho (by omega) ((hSt_all f o ho).2 (D' + 2) (by omega)) ((hSt_all f o ho).2 (D' + 1) (by omega))
    · obtain ⟨D', rfl⟩ : ∃ D', D = D' + 2 := ⟨D - 2, by omega⟩
      exact x_7 (fun o12 => (hSt_all f (o + 1) (by omega)).1 (D' + 1) (by omega))
end MJA46
end
section
/-! ===== the Coder: PARAMS are known ===== -/
def pnT (L : List CD) (m i : Nat) : Nat := match (psM L m)[i]? with
  | some p => p.2.1
  | none => 0
def pvs (T : TT) (L : List CD) (m : Nat) : Nat → List VE
  | 0 => []
  | i + 1 => pvs T L m i ++ [(kyT T (pnT L m i), pyT T L m i, i, 0)]
section MJA47
variable {T : TT} {d N q c m n i k : Nat} {s s' s0 : mjSt3} {L : List CD} {tr : Bool}
theorem pvs_len : (pvs T L m i).length = i := by
  induction i with
  | zero => rfl
  | succ i ih =>
    show (pvs T L m i ++ [(kyT T (pnT L m i), pyT T L m i, i, 0)]).length = i + 1
    rw [List.length_append, List.length_singleton, ih]
theorem nI_ad (a b : Nat) : nI a + nI b = nI (a + b) := (Int32.ofNat_add a b).symm
theorem L5_S (R : mjR) (n a : Nat) (b e : Int32) (hp : mjH) : L_5_30 R (n + 1) a b e hp = b_5_30 R (L_5_30 R n) a b e hp := rfl
theorem lq_5 (hm : m < nMem L) : ∀ (r i n : Nat) (s : mjSt3), i + r = (psM L m).length → r < n → CB T N q L tr s → VSr T N L (pvs T L m i) i s → fne s (posP L m i) → posP L m i ≤ N → ∃ s', L_5_30 (mjF (d + 2)) n 75 (nI m) (nI i) (mjW0 s) = some (none, mjW0 s') ∧ VSr T N L (pvs T L m (psM L m).length) (psM L m).length s' ∧ oSt q s s' ∧ fne s' (posP L m (psM L m).length) ∧ posP L m (psM L m).length ≤ N ∧ (∀ h, ¬ h = 58 → ¬ h = 75 → ¬ h = 77 → ¬ h = 78 → s'.1 h = s.1 h)
  | r, i, 0, s, e, hr, C, V, f, hp => by omega
  | 0, i, n + 1, s, e, hr, C, V, f, hp => by
    have d3 := C.2.1.2.2.1
    have P := C.2.2.2.1 m hm
    have l6 := P.2.2.2.2.1
    have ei : i = (psM L m).length := by omega
    refine ⟨s, ?_, by rw [← ei]; exact V, offG.rf, by rw [← ei]; exact f, by rw [← ei]; exact hp, fun _ _ _ _ _ => rfl⟩
    rw [L5_S]
    unfold b_5_30
    rw [xg_75_4, C.2.2.2.2.2.2.1, ymg_6 C.pq, wya_20 C.pq (by omega), (C.2.1.2.2.2.2 m hm).2.2.2.2.2.2, show (mdM L m).2.2.2.1.length = (psM L m).length from rfl, ei, if_pos (Int32.le_refl _)]
  | r + 1, i, n + 1, s, e, hr, C, V, f, hp => by
    have d3 := C.2.1.2.2.1
    have hq' : q = 2 ∨ q = 30 := C.pq
    have P := C.2.2.2.1 m hm
    have l6 : (psM L m).length ≤ 6 := P.2.2.2.2.1
    have hT := C.1.1.1
    have h0 := hT.2.2.1
    have hN := hT.2.1
    have il : i < (psM L m).length := by omega
    obtain ⟨p, hpp⟩ : ∃ p, (psM L m)[i]? = some p := ⟨_, List.getElem?_eq_getElem il⟩
    obtain ⟨q1, q2, q3, q4, q5⟩ := P.2.2.2.2.2 i p hpp
    have q5 : p.1 = posP L m i := by
      rw [q5]
      cases i with
      | zero => rfl
      | succ i => rfl
    have pn : pnT L m i = p.2.1 := by unfold pnT; rw [hpp]
    have pp : posP L m (i + 1) = p.2.1 + 2 := by
      show (match (psM L m)[i]? with
        | some p' => p'.2.1 + 2
        | none => 0) = _
      rw [hpp]
    have pre : L_5_30 (mjF (d + 2)) (n + 1) 75 (nI m) (nI i) (mjW0 s) = _ := L5_S _ _ _ _ _ _
    unfold b_5_30 at pre
    rw [xg_75_4, C.2.2.2.2.2.2.1, ymg_6 C.pq, wya_20 C.pq (by omega), (C.2.1.2.2.2.2 m hm).2.2.2.2.2.2, show (mdM L m).2.2.2.1.length = (psM L m).length from rfl, if_neg (nI_ge il (by omega)), xg_75_0, xV_58, j_now hT f.1 hp, bI_s, xg_75_0, xV_58, j_is hT f.1 hp, bI_s, i01] at pre
    have step : L_5_30 (mjF (d + 2)) (n + 1) 75 (nI m) (nI i) (mjW0 s) = b_5_83 (mjF (d + 2)) (L_5_30 (mjF (d + 2)) n) 75 (nI m) (nI i) (nI p.2.1) (mjW0 s) := by
      rw [← q5] at pre
      unfold teT at q2
      rcases q1 with ⟨a, b⟩ | ⟨a, b⟩
      · rw [if_pos a, nI_1] at pre
        rw [if_pos a] at q2
        rw [pre, q2]
      · rw [if_neg a, xg_75_2, xV_71, x_61 hT f.1 hp b, bI_s, show (2 : Int32) = nI 2 from rfl, nI_ad, nI_mul, nI_ad] at pre
        rw [if_neg a] at q2
        rw [pre, q2]
    have Y := C.1.2.2.2.2.2.2.2.1 m hm
    have vp := py_v (T := T) (i := i) C.hn (C.2.1.2.2.2.2 m hm).2.1
    obtain ⟨s2, r1, r2, r3, r4⟩ := x_6 (d := d + 1) (c1 := p.2.1) (ty := pyT T L m i) V (by omega) (by omega) q3 vp 0 q
    have C2 := C.oC r3.C
    have f2 : fne s2 (posP L m i) := ⟨by rw [r4 58 (by decide) (by decide) (by decide)]; exact f.1, by rw [r4 58 (by decide) (by decide) (by decide)]; exact f.2⟩
    have xg : o58 s2 (tkGo s2 (p.2.1 + 2)) := o58.go _ _
    unfold b_5_83 at step
    rw [xg_75_0, xV_58, j_key hT f.1 hp (by omega), bL_s, xg_75_4, C.2.2.2.2.2.2.1, ymV C.pq, x_98 C.pq (by omega) (by omega), bI_s, Y.2 i il, xV_75, r1, bN_s, xg_75_0, xV_58, show (2 : Int32) = nI 2 from rfl, nI_ad, j_go C2.1.1.1 f2 hp (by omega), bN_s, nI_1] at step
    have f3 := f2.go (p.2.1 + 2)
    rw [← pp] at f3 xg step
    have e3 : pvs T L m (i + 1) = pvs T L m i ++ [(kyT T p.2.1, pyT T L m i, i, 0)] := by
      show pvs T L m i ++ [(kyT T (pnT L m i), pyT T L m i, i, 0)] = _
      rw [pn]
    have V3 : VSr T N L (pvs T L m (i + 1)) (i + 1) (tkGo s2 (posP L m (i + 1))) := by
      rw [e3]
      exact r2.oE C.pq xg.oe
    obtain ⟨s', a1, a2, a3, a4, a5, a6⟩ := lq_5 hm r (i + 1) n _ (by omega) (by omega) (C2.oC xg.C) V3 f3 (by rw [pp]; exact q4)
    refine ⟨s', step.trans a1, a2, r3.tr (xg.S.tr a3), a4, a5, fun h h1 h2 h3 h4 => ?_⟩
    rw [a6 h h1 h2 h3 h4, xg.r h1, r4 h h2 h3 h4]
end MJA47
end
section
/-! ===== the Coder: knowParams ===== -/
section MJA48
variable {T : TT} {d N q c m n i k : Nat} {s s' s0 : mjSt3} {L : List CD} {tr : Bool}
/-- known and told are 0 -/
theorem z_75 (s : mjSt3) : ∃ s', (∀ k : mjH → mjU, pI (mjW0 s) 75 1 11 0 (fun hp1 => pI hp1 75 1 12 0 k) = k (mjW0 s')) ∧ VSr T N L [] 0 s' ∧ oSt q s s' ∧ (∀ h, ¬ h = 75 → s'.1 h = s.1 h) ∧ s'.2 = s.2 := by
  obtain ⟨z1, h1⟩ : ∃ z, z = uI s 75 (upd (s.1 75) 11 0) := ⟨_, rfl⟩
  obtain ⟨z2, h2⟩ : ∃ z, z = uI z1 75 (upd (z1.1 75) 12 0) := ⟨_, rfl⟩
  refine ⟨z2, fun k => ?_, ⟨?_, ?_, Nat.le_refl _, by omega, fun i e he => by cases he⟩, ?_, fun h hh => ?_, by rw [h2, h1]; rfl⟩
  · rw [xp_75_11, ← h1, xp_75_12, ← h2]
  · rw [h2, uI_same, upd_g, if_neg (by decide), h1, uI_same, upd_g, if_pos rfl]; rfl
  · rw [h2, uI_same, upd_g, if_pos rfl]; rfl
  · have o1 : oSt q s z1 := by rw [h1]; exact offG.w (Or.inr (Or.inl ⟨rfl, by omega, by omega⟩))
    have o2 : oSt q z1 z2 := by rw [h2]; exact offG.w (Or.inr (Or.inl ⟨rfl, by omega, by omega⟩))
    exact o1.tr o2
  · rw [h2, uI_ne _ _ _ _ hh, h1, uI_ne _ _ _ _ hh]
theorem x_5 (hm : m < nMem L) (C : CB T N q L tr s) (f : fne s c) (hc : c ≤ N) : ∃ s', mjF (d + 3) 5 [.ref 75, .int (nI m)] (mjW0 s) = some (none, mjW0 s') ∧ VSr T N L (pvs T L m (psM L m).length) (psM L m).length s' ∧ oSt q s s' ∧ fne s' (posP L m (psM L m).length) ∧ posP L m (psM L m).length ≤ N ∧ (∀ h, ¬ h = 58 → ¬ h = 75 → ¬ h = 77 → ¬ h = 78 → s'.1 h = s.1 h) := by
  have d3 := C.2.1.2.2.1
  have P := C.2.2.2.1 m hm
  have l6 : (psM L m).length ≤ 6 := P.2.2.2.2.1
  obtain ⟨s1, a1, a2, a3, a4, a5⟩ := z_75 (T := T) (N := N) (L := L) (q := q) s
  have C1 := C.oC a3.C
  have f1 : fne s1 c := ⟨by rw [a4 58 (by decide)]; exact f.1, by rw [a4 58 (by decide)]; exact f.2⟩
  have xg : o58 s1 (tkGo s1 ((mdM L m).2.1 + 2)) := o58.go _ _
  obtain ⟨s2, b1, b2', b3, b4, b5, b6⟩ := lq_5 (d := d) (tr := tr) (q := q) hm (psM L m).length 0 mjN (tkGo s1 ((mdM L m).2.1 + 2)) (by omega) (by have := mjN_v; omega) (C1.oC xg.C) (a2.oE C.pq xg.oe) (f1.go _) P.2.2.2.1
  refine ⟨s2, ?_, b2', a3.tr (xg.S.tr b3), b4, b5, fun h h1 h2 h3 h4 => by rw [b6 h h1 h2 h3 h4, xg.r h1, a4 h h2]⟩
  rw [e_5]
  unfold f_5 b_5_0
  rw [a1, xg_75_0, xg_75_1, xg_64_7, wa_69 (by omega), (C1.2.1.2.2.2.2 m hm).2.2.2.1, xV_58, show (2 : Int32) = nI 2 from rfl, nI_ad, j_go C1.1.1.1 f1 hc P.2.2.2.1, bN_s, show (0 : Int32) = nI 0 from rfl, b1]
/-- main has no PARAMS -/
theorem x_5m (C : CB T N q L tr s) (f : fne s c) (hc : c ≤ N) (h2 : 2 ≤ N) (h69 : s.1 69 384 = 0) (h20 : s.1 (q + 20) 384 = 0) : ∃ s', mjF (d + 3) 5 [.ref 75, .int (nI 384)] (mjW0 s) = some (none, mjW0 s') ∧ VSr T N L [] 0 s' ∧ oSt q s s' ∧ fne s' 2 ∧ (∀ h, ¬ h = 58 → ¬ h = 75 → s'.1 h = s.1 h) := by
  have hq' : q = 2 ∨ q = 30 := C.pq
  obtain ⟨s1, a1, a2, a3, a4, a5⟩ := z_75 (T := T) (N := N) (L := L) (q := q) s
  have C1 := C.oC a3.C
  have f1 : fne s1 c := ⟨by rw [a4 58 (by decide)]; exact f.1, by rw [a4 58 (by decide)]; exact f.2⟩
  have xg : o58 s1 (tkGo s1 (0 + 2)) := o58.go _ _
  have C2 := C1.oC xg.C
  refine ⟨tkGo s1 (0 + 2), ?_, a2.oE C.pq xg.oe, a3.tr xg.S, f1.go _, fun h h1 h2 => by rw [xg.r h1, a4 h h2]⟩
  have e20 : (tkGo s1 (0 + 2)).1 (q + 20) 384 = 0 := by rw [xg.r (by omega), a4 _ (by omega)]; exact h20
  rw [e_5]
  unfold f_5 b_5_0
  rw [a1, xg_75_0, xg_75_1, xg_64_7, wa_69 (by omega), a4 69 (by decide), h69, xV_58, show (0 : Int32) + 2 = nI (0 + 2) from rfl, j_go C1.1.1.1 f1 hc (show 0 + 2 ≤ N by omega), bN_s, show mjN = 99999999 + 1 from rfl, L5_S]
  unfold b_5_30
  rw [xg_75_4, C2.2.2.2.2.2.2.1, ymg_6 C.pq, wya_20 C.pq (by omega), e20, if_pos (Int32.le_refl _)]
end MJA48
end
section
/-! ===== the Coder: one METHOD ===== -/
section MJA49
variable {E : EV} {d N q c m n i k cs bt td kq : Nat} {s s' s0 : mjSt3} {j : JS}
/-- where a METHOD's code begins: its CLASS, its TYPE, its start, its BLOCK -/
theorem x_begin (C : CB E.1 N q E.2.1 E.2.2.1 s) (V : VSr E.1 N E.2.1 j.2.2.1 j.2.2.2.1 s) (f : fne s c) (hc : c ≤ N) (sz : s.1 (q + 24) 3 = nI cs) (hm : m < 385) (h16 : s.1 (q + 16) m = oI E.2.2.2.2.1) (hh : ∀ c, E.2.2.2.2.1 = some c → c < E.2.1.length) (h17 : s.1 (q + 17) m = tyI E.2.2.2.2.2.1) (hr : vT E.2.1 E.2.2.2.2.2.1) (h70 : s.1 70 m = nI bt) (hbt : bt ≤ N) : ∃ s', (∀ K : mjH → mjU, gR (mjW0 s) 75 1 4 (fun v8 => gR (mjW0 s) v8 6 2 (fun v9 => aI (mjW0 s) v9 (nI m) (fun v10 => pI (mjW0 s) 75 1 6 v10 (fun hp11 => gR hp11 75 1 4 (fun v12 => gR hp11 v12 6 3 (fun v13 => aI hp11 v13 (nI m) (fun v14 => pI hp11 75 1 7 v14 (fun hp15 => gR hp15 75 1 4 (fun v16 => gR hp15 v16 6 9 (fun v17 => gR hp15 75 1 5 (fun v18 => gI hp15 v18 0 3 (fun v19 => sI hp15 v17 (nI m) v19 (fun hp20 => gR hp20 75 1 0 (fun v21 => gR hp20 75 1 1 (fun v22 => gR hp20 v22 8 8 (fun v23 => aI hp20 v23 (nI m) (fun v24 => rV hp20 v21 9 (bN (mjF (d + 1) 179 [.ref v21, .int v24] hp20) (fun hp25 => K hp25))))))))))))))))))) = K (mjW0 s')) ∧ CE E N q s' j cs ∧ RT E s' ∧ fne s' bt ∧ oC q s s' ∧ (∀ h, ¬ h = 58 → ¬ h = 75 → ¬ h = q + 23 → s'.1 h = s.1 h) ∧ s'.1 (q + 23) = upd (s.1 (q + 23)) m (nI cs) ∧ s'.2 = s.2 := by
  have hq' : q = 2 ∨ q = 30 := C.pq
  obtain ⟨z1, h1⟩ : ∃ z, z = uI s 75 (upd (s.1 75) 6 (oI E.2.2.2.2.1)) := ⟨_, rfl⟩
  obtain ⟨z2, h2⟩ : ∃ z, z = uI z1 75 (upd (z1.1 75) 7 (tyI E.2.2.2.2.2.1)) := ⟨_, rfl⟩
  obtain ⟨z3, h3⟩ : ∃ z, z = uI z2 (q + 23) (upd (z2.1 (q + 23)) m (nI cs)) := ⟨_, rfl⟩
  have r1 : ∀ h, ¬ h = 75 → z1.1 h = s.1 h := fun h e => by rw [h1, uI_ne _ _ _ _ e]
  have r2 : ∀ h, ¬ h = 75 → z2.1 h = s.1 h := fun h e => by rw [h2, uI_ne _ _ _ _ e, r1 h e]
  have r3 : ∀ h, ¬ h = 75 → ¬ h = q + 23 → z3.1 h = s.1 h := fun h e g => by rw [h3, uI_ne _ _ _ _ g, r2 h e]
  have o1 : oC q s z1 := by rw [h1]; exact offG.w (Or.inr (Or.inl ⟨rfl, by omega, by omega⟩))
  have o2 : oC q z1 z2 := by rw [h2]; exact offG.w (Or.inr (Or.inl ⟨rfl, by omega, by omega⟩))
  have o3 : oC q z2 z3 := by rw [h3]; exact offG.w (Or.inr (Or.inr (Or.inr (Or.inr (Or.inr (Or.inr rfl))))))
  have oz : oC q s z3 := o1.tr (o2.tr o3)
  have C1 := C.oC o1
  have C2 := C.oC (o1.tr o2)
  have C3 := C.oC oz
  have f3 : fne z3 c := ⟨by rw [r3 58 (by decide) (by omega)]; exact f.1, by rw [r3 58 (by decide) (by omega)]; exact f.2⟩
  have xg : o58 z3 (tkGo z3 bt) := o58.go _ _
  have g75 : ∀ j, ¬ j = 6 → ¬ j = 7 → z3.1 75 j = s.1 75 j := fun j a b => by rw [h3, uI_ne _ _ _ _ (by omega), h2, uI_same, upd_g, if_neg b, h1, uI_same, upd_g, if_neg a]
  have e6 : z3.1 75 6 = oI E.2.2.2.2.1 := by rw [h3, uI_ne _ _ _ _ (by omega), h2, uI_same, upd_g, if_neg (by decide), h1, uI_same, upd_g, if_pos rfl]
  have e7 : z3.1 75 7 = tyI E.2.2.2.2.2.1 := by rw [h3, uI_ne _ _ _ _ (by omega), h2, uI_same, upd_g, if_pos rfl]
  have ez : z3.2 = s.2 := by rw [h3, h2, h1]; rfl
  have V3 : VSr E.1 N E.2.1 j.2.2.1 j.2.2.2.1 z3 := by
    unfold VSr
    rw [g75 11 (by decide) (by decide), g75 12 (by decide) (by decide), r3 77 (by decide) (by omega), r3 78 (by decide) (by omega), ez]
    exact V
  refine ⟨tkGo z3 bt, fun K => ?_, ⟨C3.oC xg.C, by rw [xg.r (by decide)]; exact e6, hh, V3.oE C.pq xg.oe, ?_⟩, ⟨by rw [xg.r (by decide)]; exact e7, hr⟩, f3.go bt, oz.tr xg.C, fun h a b c => by rw [xg.r a, r3 h b c], ?_, ez⟩
  · rw [xg_75_4, C.2.2.2.2.2.2.1, ymg_2 C.pq, wya_16 C.pq hm, h16, xp_75_6, ← h1, xg_75_4, C1.2.2.2.2.2.2.1, ymg_3 C.pq, wya_17 C.pq hm, r1 _ (by omega), h17, xp_75_7, ← h2, xg_75_4, C2.2.2.2.2.2.2.1, ymg_9 C.pq, xg_75_5, C2.2.2.2.2.2.2.2, ycg_3 C.pq, r2 _ (by omega), sz, wys_23 C.pq hm, ← h3, xg_75_0, xg_75_1, xg_64_8, wa_70 hm, r3 70 (by decide) (by omega), h70, xV_58, j_go C3.1.1.1 f3 hc hbt, bN_s]
  · rw [xg.r (by omega), r3 _ (by omega) (by omega)]; exact sz
  · rw [xg.r (by omega), h3, uI_same, r2 _ (by omega)]
end MJA49
end
section
/-! ===== the Coder: one METHOD, from its PARAMS to behind its code ===== -/
section MJA50
variable {E : EV} {D N q c c5 m n i k cs bt td kq fu : Nat} {s s5 s' s0 : mjSt3} {j : JS} {z : PB}
theorem x_4s {k23 : Nat → Int32 → mjH → mjU} {oo : Nat} (hoo : oo ≤ 12) (hD : 136 ≤ D + 1) (C : CB E.1 N q E.2.1 E.2.2.1 s) (f : fne s c) (sz : s.1 (q + 24) 3 = nI cs) (hm : m ≤ 384) (h18 : s.1 (q + 18) m = 1) (e5 : mjF (D + 1) 5 [.ref 75, .int (nI m)] (mjW0 s) = some (none, mjW0 s5)) (V : VSr E.1 N E.2.1 j.2.2.1 j.2.2.2.1 s5) (o5 : oSt q s s5) (f5 : fne s5 c5) (hc5 : c5 ≤ N) (r5 : ∀ h, ¬ h = 58 → ¬ h = 75 → ¬ h = 77 → ¬ h = 78 → s5.1 h = s.1 h) (h16 : s.1 (q + 16) m = oI E.2.2.2.2.1) (hh : ∀ c, E.2.2.2.2.1 = some c → c < E.2.1.length) (h17 : s.1 (q + 17) m = tyI E.2.2.2.2.2.1) (hr : vT E.2.1 E.2.2.2.2.2.1) (h70 : s.1 70 m = nI bt) (hbt : bt ≤ N) (hVD : VD j) (hz : prS E.1 (N + 1) fu 0 oo bt j.2.2.2.1 kq i = .inr z) (hK : KT E.2.2.2.1 kq z.2.2.1) (hA : AG s z.2.2.2.2) (hP : PS E i cs z.2.2.2.1 j) (hb : cs + (z.1 - bt) ≤ 3090) (hi0 : i + z.2.2.2.1.length ≤ 100000) (hkq : kq + z.2.2.1.length ≤ 100000) : (∃ s' j' l, b_4_23 (mjF (D + 1)) k23 75 (nI m) (mjW0 s) = k23 75 (nI (m + 1)) (mjW0 s') ∧ jrun E z.2.2.2.1 j = some (j', l) ∧ CB E.1 N q E.2.1 E.2.2.1 s' ∧ fne s' z.1 ∧ z.1 ≤ N ∧ s'.1 (q + 24) 3 = nI (cs + l.length + 2) ∧ CL q s' cs (l ++ [(0, 0, -1), (9, 0, -1)]) ∧ CP q cs s s' ∧ s'.1 (q + 23) = upd (s.1 (q + 23)) m (nI cs) ∧ oC q s s' ∧ l.length + bt + 2 ≤ z.1) ∨ (∃ s', b_4_23 (mjF (D + 1)) k23 75 (nI m) (mjW0 s) = k23 75 (nI (m + 1)) (mjW0 s') ∧ jrun E z.2.2.2.1 j = none ∧ BC E.1 N q E.2.1 E.2.2.1 s' ∧ oC q s s') := by
  have hq' : q = 2 ∨ q = 30 := C.pq
  have C5 := C.oC o5.C
  obtain ⟨s6, b1, b2', b3, b4, b5, b6, b7, b8⟩ := x_begin (d := D) (m := m) (bt := bt) C5 V f5 hc5 (cs := cs) (by rw [r5 _ (by omega) (by omega) (by omega) (by omega)]; exact sz) (by omega) (by rw [r5 _ (by omega) (by omega) (by omega) (by omega)]; exact h16) hh (by rw [r5 _ (by omega) (by omega) (by omega) (by omega)]; exact h17) hr (by rw [r5 _ (by omega) (by omega) (by omega) (by omega)]; exact h70) hbt
  have row : ∀ h, ¬ h = 58 → ¬ h = 75 → ¬ h = 77 → ¬ h = 78 → ¬ h = q + 23 → s6.1 h = s.1 h := fun h a1 a2 a3 a4 a5 => by rw [b6 h a1 a2 a5, r5 h a1 a2 a3 a4]
  have o6 : oC q s s6 := o5.C.tr b5
  obtain ⟨U, hU⟩ : ∃ U, U = b_4_23 (mjF (D + 1)) k23 75 (nI m) (mjW0 s) := ⟨_, rfl⟩
  rw [← hU]
  have pre := hU
  unfold b_4_23 b_4_142 at pre
  rw [if_neg (show ¬ (384 : Int32) < nI m from nI_nlt (a := 384) (by omega) (by omega)), xg_75_0, xV_58, j_fine f, bI_s, if_neg (by decide), xg_75_4, C.2.2.2.2.2.2.1, ymg_4 C.pq, wya_18 C.pq (by omega), h18, if_neg (by decide), xV_75, e5, bN_s, b1, xV_75] at pre
  have A6 : AG s6 z.2.2.2.2 := by
    unfold AG
    rw [row 63 (by decide) (by decide) (by decide) (by decide) (by omega)]
    exact hA
  have G := (hSt_all (E := E) (N := N) (q := q) fu oo hoo).2 (D + 1) (by omega) bt kq i cs s6 j z hbt b2' b3 hVD b4 hz hK A6 hP hb hi0 hkq
  rcases G with ⟨s7, j', l, g1, ⟨a1, a2, a3, a4, a5, a6, a7, a8, a9⟩, g3⟩ | ⟨s7, g1, g2, g3, g4⟩
  · obtain ⟨s8, w1, w2, w3, w4, w5, w6⟩ := put1 (d := D) a2 (by omega) 0 0 (-1)
    have C8 := a2.go w2 w4
    obtain ⟨s9, v1, v2, v3, v4, v5, v6⟩ := put1 (d := D) C8 (by omega) 9 0 (-1)
    have C9 := C8.go v2 v4
    rw [g1, bN_s, xg_75_5, a2.1.2.2.2.2.2.2.2, ycV C.pq, w1, bI_s, xg_75_5, C8.1.2.2.2.2.2.2.2, ycV C.pq, v1, bI_s, nI_1] at pre
    have r23 : s9.1 (q + 23) = s6.1 (q + 23) := funext fun k => by
      rw [v2.1 (q + 23) k (by unfold c58; omega), w2.1 (q + 23) k (by unfold c58; omega), a6.1 (q + 23) k (by unfold c58; omega)]
    have cp6 : CP q cs s s6 := fun k _ => by
      rw [row _ (by omega) (by omega) (by omega) (by omega) (by omega), row _ (by omega) (by omega) (by omega) (by omega) (by omega), row _ (by omega) (by omega) (by omega) (by omega) (by omega)]
      exact ⟨rfl, rfl, rfl⟩
    refine Or.inl ⟨s9, j', l, pre, a1, C9.1, ⟨by rw [v3, w3]; exact a3.1, by rw [v3, w3]; exact a3.2⟩, a8, v4, ?_, CP.trn cp6 (CP.trn a5 (CP.trn (w6.mono (by omega)) (v6.mono (by omega)))), ?_, o6.tr (a6.C.tr (w2.C.tr v2.C)), by omega⟩
    · have c8 := (a4.keep w6).app w5
      have e8 : (l ++ [((0, 0, -1) : Ins)]).length = l.length + 1 := by rw [List.length_append, List.length_singleton]
      have c9 := (c8.keep (show CP q (cs + (l ++ [((0, 0, -1) : Ins)]).length) s8 s9 by rw [e8, ← Nat.add_assoc]; exact v6)).app (show CL q s9 (cs + (l ++ [((0, 0, -1) : Ins)]).length) [(9, 0, -1)] by rw [e8, ← Nat.add_assoc]; exact v5)
      rw [List.append_assoc] at c9
      exact c9
    · rw [r23, b7, r5 _ (by omega) (by omega) (by omega) (by omega)]
  · obtain ⟨s8, n1, w1, w2, w3, w4, w5⟩ := n_emit (d := D) g3 0 0 (-1)
    obtain ⟨s9, n2, v1, v2, v3, v4, v5⟩ := n_emit (d := D) w3 9 0 (-1)
    rw [g1, bN_s, xg_75_5, g3.1.2.2.2.2.2.2.2, ycV C.pq, w1, bI_s, xg_75_5, w3.1.2.2.2.2.2.2.2, ycV C.pq, v1, bI_s, nI_1] at pre
    exact Or.inr ⟨s9, pre, g2, v3, o6.tr (g4.tr (w4.tr v4))⟩
end MJA50
end
section
/-! ===== places of orders: the code's length does not depend on them ===== -/
def evP (E : EV) (ps : Nat → Nat) : EV := (E.1, E.2.1, E.2.2.1, E.2.2.2.1, E.2.2.2.2.1, E.2.2.2.2.2.1, ps)
/-- alike but for the jumps' targets -/
def jAl (a b : Option (JS × List Ins)) : Prop := match a, b with
  | none, none => True
  | some x, some y => x.1 = y.1 ∧ x.2.length = y.2.length
  | _, _ => False
section MJA51
variable {E : EV} {ps : Nat → Nat} {j : JS} {r : Row}
theorem jAl.rf (a : Option (JS × List Ins)) : jAl a a := by
  cases a with
  | none => exact True.intro
  | some x => exact ⟨rfl, rfl⟩
theorem jrow_pe (h21 : ¬ r.1 = 21) (h22 : ¬ r.1 = 22) (h23 : ¬ r.1 = 23) : jrow (evP E ps) r j = jrow E r j := by
  unfold jrow
  simp only [if_neg h21, if_neg h22, if_neg h23]
  rfl
theorem jrow_al : jAl (jrow (evP E ps) r j) (jrow E r j) := by
  by_cases h21 : r.1 = 21
  · obtain ⟨a, b⟩ := r
    have h21 : a = 21 := h21
    subst h21
    show jAl (match j.1 with
      | t :: st => if t.1 = 0 then some (jst j st ((jRS j).drop 1), [((7, nI (ps b.2.1.toNatClampNeg), -1) : Ins)]) else none
      | [] => none) (match j.1 with
      | t :: st => if t.1 = 0 then some (jst j st ((jRS j).drop 1), [((7, nI (E.2.2.2.2.2.2 b.2.1.toNatClampNeg), -1) : Ins)]) else none
      | [] => none)
    cases hj : j.1 with
    | nil => exact True.intro
    | cons t st =>
      dsimp only
      by_cases g : t.1 = 0
      · rw [if_pos g, if_pos g]; exact ⟨rfl, rfl⟩
      · rw [if_neg g, if_neg g]; exact True.intro
  · by_cases h22 : r.1 = 22
    · obtain ⟨a, b⟩ := r
      have h22 : a = 22 := h22
      subst h22
      exact ⟨rfl, rfl⟩
    · by_cases h23 : r.1 = 23
      · obtain ⟨a, b⟩ := r
        have h23 : a = 23 := h23
        subst h23
        exact ⟨rfl, rfl⟩
      · rw [jrow_pe h21 h22 h23]
        exact jAl.rf _
theorem jrun_al : ∀ (os : List Row) (j : JS), jAl (jrun (evP E ps) os j) (jrun E os j)
  | [], j => ⟨rfl, rfl⟩
  | r :: os, j => by
    have h := jrow_al (E := E) (ps := ps) (r := r) (j := j)
    show jAl (match jrow (evP E ps) r j with
      | none => none
      | some (j1, c1) => match jrun (evP E ps) os j1 with
        | none => none
        | some (j2, c2) => some (j2, c1 ++ c2)) (match jrow E r j with
      | none => none
      | some (j1, c1) => match jrun E os j1 with
        | none => none
        | some (j2, c2) => some (j2, c1 ++ c2))
    cases h1 : jrow (evP E ps) r j with
    | none =>
      cases h2 : jrow E r j with
      | none => exact True.intro
      | some y => rw [h1, h2] at h; exact h.elim
    | some x =>
      cases h2 : jrow E r j with
      | none => rw [h1, h2] at h; exact h.elim
      | some y =>
        rw [h1, h2] at h
        obtain ⟨j1, c1⟩ := x
        obtain ⟨j2, c2⟩ := y
        obtain ⟨e1, e2⟩ := h
        dsimp only at e1 e2
        subst e1
        dsimp only
        have ih := jrun_al os j1
        cases h3 : jrun (evP E ps) os j1 with
        | none =>
          cases h4 : jrun E os j1 with
          | none => exact True.intro
          | some y => rw [h3, h4] at ih; exact ih.elim
        | some x =>
          cases h4 : jrun E os j1 with
          | none => rw [h3, h4] at ih; exact ih.elim
          | some y =>
            rw [h3, h4] at ih
            obtain ⟨j3, c3⟩ := x
            obtain ⟨j4, c4⟩ := y
            obtain ⟨e3, e4⟩ := ih
            dsimp only at e3 e4
            subst e3
            exact ⟨rfl, by rw [List.length_append, List.length_append, e2, e4]⟩
/-- the places, by a first run without them -/
def psOf (E : EV) (i0 cs : Nat) (os : List Row) (j : JS) (i : Nat) : Nat := match jrun E (os.take (i - i0)) j with
  | some x => cs + x.2.length
  | none => 0
theorem PS_of (i0 cs : Nat) (os : List Row) : PS (evP E (psOf E i0 cs os j)) i0 cs os j := by
  intro a b j1 l1 e h
  show psOf E i0 cs os j (i0 + a.length) = cs + l1.length
  unfold psOf
  rw [show i0 + a.length - i0 = a.length by omega, e, List.take_left']
  · have al := jrun_al (E := E) (ps := psOf E i0 cs (a ++ b) j) a j
    rw [e] at h
    rw [h] at al
    cases h2 : jrun E a j with
    | none => rw [h2] at al; exact al.elim
    | some x =>
      rw [h2] at al
      dsimp only
      rw [al.2]
  · rfl
end MJA51
end
section
/-! ===== the Coder: codeAll ===== -/
/-- what is known of the METHODS ahead of the Coder: by number, is it a METHOD, its EV (places left open), its BLOCK's token and what was read there, its PARAMS -/
def MBm (N q D : Nat) (isM : Nat → Bool) (Em : Nat → EV) (bt kq i0 : Nat → Nat) (zm : Nat → PB) (jm : Nat → JS) (s0 : mjSt3) : Prop := ∀ m, m ≤ 384 → s0.1 (q + 18) m = b2 (isM m) ∧ (isM m = true → (Em m).1 = (Em 384).1 ∧ (Em m).2.1 = (Em 384).2.1 ∧ (Em m).2.2.1 = (Em 384).2.2.1 ∧ s0.1 (q + 16) m = oI (Em m).2.2.2.2.1 ∧ (∀ c, (Em m).2.2.2.2.1 = some c → c < (Em m).2.1.length) ∧ s0.1 (q + 17) m = tyI (Em m).2.2.2.2.2.1 ∧ vT (Em m).2.1 (Em m).2.2.2.2.2.1 ∧ s0.1 70 m = nI (bt m) ∧ bt m ≤ N ∧ VD (jm m) ∧ (∃ fu oo, oo ≤ 12 ∧ prS (Em m).1 (N + 1) fu 0 oo (bt m) (jm m).2.2.2.1 (kq m) (i0 m) = .inr (zm m)) ∧ KT (Em m).2.2.2.1 (kq m) (zm m).2.2.1 ∧ AG s0 (zm m).2.2.2.2 ∧ i0 m + (zm m).2.2.2.1.length ≤ 100000 ∧ kq m + (zm m).2.2.1.length ≤ 100000 ∧ (∀ m', m < m' → m' ≤ 384 → isM m' = true → (zm m).1 ≤ bt m') ∧ (zm m).1 ≤ N ∧ ∀ s c, CB (Em 384).1 N q (Em 384).2.1 (Em 384).2.2.1 s → oC q s0 s → fne s c → c ≤ N → ∃ s5 c5, mjF (D + 1) 5 [.ref 75, .int (nI m)] (mjW0 s) = some (none, mjW0 s5) ∧ VSr (Em 384).1 N (Em 384).2.1 (jm m).2.2.1 (jm m).2.2.2.1 s5 ∧ oSt q s s5 ∧ fne s5 c5 ∧ c5 ≤ N ∧ ∀ h, ¬ h = 58 → ¬ h = 75 → ¬ h = 77 → ¬ h = 78 → s5.1 h = s.1 h)
/-- the METHODS below M have their code -/
def GCm (q : Nat) (isM : Nat → Bool) (Em : Nat → EV) (i0 : Nat → Nat) (zm : Nat → PB) (jm : Nat → JS) (s : mjSt3) (M cs : Nat) : Prop := ∀ m, m < M → isM m = true → ∃ c j' l, jrun (evP (Em m) (psOf (Em m) (i0 m) c (zm m).2.2.2.1 (jm m))) (zm m).2.2.2.1 (jm m) = some (j', l) ∧ s.1 (q + 23) m = nI c ∧ CL q s c (l ++ [(0, 0, -1), (9, 0, -1)]) ∧ c + l.length + 2 ≤ cs
section MJA52
variable {N q D : Nat} {isM : Nat → Bool} {Em : Nat → EV} {bt kq i0 : Nat → Nat} {zm : Nat → PB} {jm : Nat → JS} {s0 : mjSt3}
theorem L4_S (R : mjR) (n a : Nat) (b : Int32) (hp : mjH) : L_4_23 R (n + 1) a b hp = b_4_23 R (L_4_23 R n) a b hp := rfl
theorem n_4l {T : TT} {L : List CD} {tr : Bool} {s : mjSt3} {d n : Nat} (B : BC T N q L tr s) (k : Int32) : L_4_23 (mjF (d + 1)) (n + 1) 75 k (mjW0 s) = some (none, mjW0 s) := by
  rw [L4_S]
  unfold b_4_23
  rw [xg_75_0, xV_58, j_fineB B.2.1, bI_s, if_pos rfl, ite_self]
theorem lq_4 (hD : 136 ≤ D + 1) (H : MBm N q D isM Em bt kq i0 zm jm s0) : ∀ (r m n cs c : Nat) (s : mjSt3), m + r = 385 → r < n → CB (Em 384).1 N q (Em 384).2.1 (Em 384).2.2.1 s → oC q s0 s → fne s c → c ≤ N → s.1 (q + 24) 3 = nI cs → (∀ m', m ≤ m' → m' ≤ 384 → isM m' = true → cs ≤ bt m') → cs ≤ N → GCm q isM Em i0 zm jm s m cs → (∃ s' c' cs', L_4_23 (mjF (D + 1)) n 75 (nI m) (mjW0 s) = some (none, mjW0 s') ∧ CB (Em 384).1 N q (Em 384).2.1 (Em 384).2.2.1 s' ∧ oC q s0 s' ∧ fne s' c' ∧ c' ≤ N ∧ s'.1 (q + 24) 3 = nI cs' ∧ cs' ≤ N ∧ GCm q isM Em i0 zm jm s' 385 cs') ∨ (∃ s' m', L_4_23 (mjF (D + 1)) n 75 (nI m) (mjW0 s) = some (none, mjW0 s') ∧ BC (Em 384).1 N q (Em 384).2.1 (Em 384).2.2.1 s' ∧ oC q s0 s' ∧ m' ≤ 384 ∧ isM m' = true ∧ jrun (Em m') (zm m').2.2.2.1 (jm m') = none)
  | r, m, 0, cs, c, s, e, hr, C, o, f, hc, sz, hb, hcs, G => by omega
  | 0, m, n + 1, cs, c, s, e, hr, C, o, f, hc, sz, hb, hcs, G => by
    refine Or.inl ⟨s, c, cs, ?_, C, o, f, hc, sz, hcs, by rw [show 385 = m by omega]; exact G⟩
    rw [L4_S]
    unfold b_4_23
    rw [show m = 385 by omega, if_pos (by decide)]
  | r + 1, m, n + 1, cs, c, s, e, hr, C, o, f, hc, sz, hb, hcs, G => by
    have hq' : q = 2 ∨ q = 30 := C.pq
    obtain ⟨h18, HM⟩ := H m (by omega)
    have h18' : s.1 (q + 18) m = b2 (isM m) := by rw [o.r (by omega)]; exact h18
    cases im : isM m with
    | false =>
      rw [im] at h18'
      have pre : L_4_23 (mjF (D + 1)) (n + 1) 75 (nI m) (mjW0 s) = L_4_23 (mjF (D + 1)) n 75 (nI (m + 1)) (mjW0 s) := by
        rw [L4_S]
        unfold b_4_23 b_4_142
        rw [if_neg (show ¬ (384 : Int32) < nI m from nI_nlt (a := 384) (by omega) (by omega)), xg_75_0, xV_58, j_fine f, bI_s, if_neg (by decide), xg_75_4, C.2.2.2.2.2.2.1, ymg_4 C.pq, wya_18 C.pq (by omega), h18', if_pos (show b2 false = 0 from rfl), nI_1]
      rw [pre]
      refine lq_4 hD H r (m + 1) n cs c s (by omega) (by omega) C o f hc sz (fun m' a b => hb m' (by omega) b) hcs (fun m' a b => ?_)
      by_cases g : m' = m
      · rw [g, im] at b; cases b
      · exact G m' (by omega) b
    | true =>
      rw [im] at h18'
      obtain ⟨t1, t2, t3, t4, t5, t6, t7, t8, t9, t10, ⟨fu, oo, hoo, t11⟩, t12, t13, t14, t15, t16, t18, t17⟩ := HM im
      obtain ⟨s5, c5, u1, u2, u3, u4, u5, u6⟩ := t17 s c C o f hc
      have zl := prS_lt fu 0 oo _ _ _ _ _ (by omega) t11
      have hT := C.1.1.1
      have hN := hT.2.1
      have bcs := hb m (Nat.le_refl _) (by omega) im
      obtain ⟨E, hE'⟩ : ∃ E : EV, E = evP (Em m) (psOf (Em m) (i0 m) cs (zm m).2.2.2.1 (jm m)) := ⟨_, rfl⟩
      have E1 : E.1 = (Em m).1 := by rw [hE']; rfl
      have E2 : E.2.1 = (Em m).2.1 := by rw [hE']; rfl
      have E3 : E.2.2.1 = (Em m).2.2.1 := by rw [hE']; rfl
      have E4 : E.2.2.2.1 = (Em m).2.2.2.1 := by rw [hE']; rfl
      have E5 : E.2.2.2.2.1 = (Em m).2.2.2.2.1 := by rw [hE']; rfl
      have E6 : E.2.2.2.2.2.1 = (Em m).2.2.2.2.2.1 := by rw [hE']; rfl
      have X := x_4s (E := E) (k23 := L_4_23 (mjF (D + 1)) n) (D := D) (m := m) (j := jm m) (z := zm m) (bt := bt m) (kq := kq m) (i := i0 m) (fu := fu) hoo hD (by rw [E1, E2, E3, t1, t2, t3]; exact C) f sz (by omega) h18' u1 (by rw [E1, E2, t1, t2]; exact u2) u3 u4 u5 u6 (by rw [E5, o.r (by omega)]; exact t4) (by rw [E5, E2]; exact t5) (by rw [E6, o.r (by omega)]; exact t6) (by rw [E2, E6]; exact t7) (by rw [o.r (by omega)]; exact t8) t9 t10 (by rw [E1]; exact t11) (by rw [E4]; exact t12) (by unfold AG; rw [o.r (by omega)]; exact t13) (by rw [hE']; exact PS_of _ _ _) (by omega) t14 t15
      rw [E1, E2, E3, t1, t2, t3] at X
      rcases X with ⟨s', j', l, g1, g2, g3, g4, g5, g6, g7, g8, g9, g10, g11⟩ | ⟨s', g1, g2, g3, g4⟩
      · have pre : L_4_23 (mjF (D + 1)) (n + 1) 75 (nI m) (mjW0 s) = L_4_23 (mjF (D + 1)) n 75 (nI (m + 1)) (mjW0 s') := by rw [L4_S]; exact g1
        rw [pre]
        refine lq_4 hD H r (m + 1) n (cs + l.length + 2) (zm m).1 s' (by omega) (by omega) g3 (o.tr g10) g4 g5 g6 (fun m' a b c => by have := t16 m' (by omega) b c; omega) (by omega) (fun m' a b => ?_)
        by_cases g : m' = m
        · subst g
          refine ⟨cs, j', l, by rw [← hE']; exact g2, by rw [g9, upd_g, if_pos rfl], g7, by omega⟩
        · obtain ⟨c1, j1, l1, k1, k2, k3, k4⟩ := G m' (by omega) b
          refine ⟨c1, j1, l1, k1, by rw [g9, upd_g, if_neg g]; exact k2, k3.keep (g8.mono ?_), by omega⟩
          rw [List.length_append]
          show c1 + (l1.length + 2) ≤ cs
          omega
      · obtain ⟨n', rfl⟩ : ∃ n', n = n' + 1 := ⟨n - 1, by omega⟩
        have pre : L_4_23 (mjF (D + 1)) (n' + 1 + 1) 75 (nI m) (mjW0 s) = some (none, mjW0 s') := by rw [L4_S, g1, n_4l g3]
        refine Or.inr ⟨s', m, pre, g3, o.tr g4, by omega, im, ?_⟩
        have al := jrun_al (E := Em m) (ps := psOf (Em m) (i0 m) cs (zm m).2.2.2.1 (jm m)) (zm m).2.2.2.1 (jm m)
        rw [← hE', g2] at al
        cases h2 : jrun (Em m) (zm m).2.2.2.1 (jm m) with
        | none => rfl
        | some x => rw [h2] at al; exact al.elim
end MJA52
end
section
/-! ===== the Coder: codeAll, from its beginning ===== -/
section MJA53
variable {N q D : Nat} {s : mjSt3}
theorem updR_e (f : Nat → Nat) (a v b : Nat) : updR f a v b = if b = a then v else f b := rfl
theorem x_4 (hq : isP q) : ∃ s', mjF (D + 2) 4 [.ref 75, .ref q] (mjW0 s) = L_4_23 (mjF (D + 1)) mjN 75 (nI 0) (mjW0 s') ∧ s'.1 = s.1 ∧ s'.2.1 = s.2.1 ∧ s'.2.2 75 3 = q ∧ s'.2.2 75 4 = q + 14 ∧ s'.2.2 75 5 = q + 24 ∧ (∀ h j, ¬ (h = 75 ∧ 3 ≤ j ∧ j ≤ 5) → s'.2.2 h j = s.2.2 h j) := by
  obtain ⟨z1, h1⟩ : ∃ z, z = uR s 75 (updR (s.2.2 75) 3 q) := ⟨_, rfl⟩
  obtain ⟨z2, h2⟩ : ∃ z, z = uR z1 75 (updR (z1.2.2 75) 4 (q + 14)) := ⟨_, rfl⟩
  obtain ⟨z3, h3⟩ : ∃ z, z = uR z2 75 (updR (z2.2.2 75) 5 (q + 24)) := ⟨_, rfl⟩
  have g : ∀ j, z3.2.2 75 j = if j = 5 then q + 24 else if j = 4 then q + 14 else if j = 3 then q else s.2.2 75 j := fun j => by
    rw [h3, uR_same, updR_e, h2, uR_same, updR_e, h1, uR_same, updR_e]
  refine ⟨z3, ?_, by rw [h3, h2, h1]; rfl, by rw [h3, h2, h1]; rfl, by rw [g]; rfl, by rw [g]; rfl, by rw [g]; rfl, fun h j hj => ?_⟩
  · rw [e_4]
    unfold f_4 b_4_0
    rw [xp_75_3, ← h1, yg_14 hq, xp_75_4, ← h2, yg_15 hq, xp_75_5, ← h3]
    rfl
  · by_cases e : h = 75
    · subst e
      rw [g, if_neg (by omega), if_neg (by omega), if_neg (by omega)]
    · rw [h3, uR_ne _ _ _ _ e, h2, uR_ne _ _ _ _ e, h1, uR_ne _ _ _ _ e]
end MJA53
end
section
/-! ===== the Coder: codeAll accepts just where every METHOD's orders are judged well ===== -/
section MJA54
variable {N q D : Nat} {isM : Nat → Bool} {Em : Nat → EV} {bt kq i0 : Nat → Nat} {zm : Nat → PB} {jm : Nat → JS} {s s0 : mjSt3} {cs : Nat}
def OKf (isM : Nat → Bool) (Em : Nat → EV) (zm : Nat → PB) (jm : Nat → JS) : Prop := ∀ m, m ≤ 384 → isM m = true → ¬ jrun (Em m) (zm m).2.2.2.1 (jm m) = none
theorem GCm.ok (G : GCm q isM Em i0 zm jm s 385 cs) : OKf isM Em zm jm := by
  intro m hm im h
  obtain ⟨c, j', l, k1, _⟩ := G m (by omega) im
  have al := jrun_al (E := Em m) (ps := psOf (Em m) (i0 m) c (zm m).2.2.2.1 (jm m)) (zm m).2.2.2.1 (jm m)
  rw [k1, h] at al
  exact al
theorem x_4a (hD : 136 ≤ D + 1) (H : MBm N q D isM Em bt kq i0 zm jm s) (C : CB (Em 384).1 N q (Em 384).2.1 (Em 384).2.2.1 s) {c : Nat} (f : fne s c) (hc : c ≤ N) (sz : s.1 (q + 24) 3 = 0) : (OKf isM Em zm jm → ∃ s' c' cs', L_4_23 (mjF (D + 1)) mjN 75 (nI 0) (mjW0 s) = some (none, mjW0 s') ∧ CB (Em 384).1 N q (Em 384).2.1 (Em 384).2.2.1 s' ∧ oC q s s' ∧ fne s' c' ∧ c' ≤ N ∧ s'.1 (q + 24) 3 = nI cs' ∧ cs' ≤ N ∧ GCm q isM Em i0 zm jm s' 385 cs') ∧ (¬ OKf isM Em zm jm → ∃ s', L_4_23 (mjF (D + 1)) mjN 75 (nI 0) (mjW0 s) = some (none, mjW0 s') ∧ BC (Em 384).1 N q (Em 384).2.1 (Em 384).2.2.1 s' ∧ oC q s s') := by
  have X := lq_4 hD H 385 0 mjN 0 c s (by omega) (by have := mjN_v; omega) C offG.rf f hc sz (fun _ _ _ _ => Nat.zero_le _) (Nat.zero_le _) (fun m hm => by omega)
  constructor
  · intro ok
    rcases X with x | ⟨s', m', _, _, _, h1, h2, h3⟩
    · exact x
    · exact absurd h3 (ok m' h1 h2)
  · intro nok
    rcases X with ⟨s', c', cs', x1, x2, x3, x4, x5, x6, x7, x8⟩ | ⟨s', m', x1, x2, x3, _⟩
    · exact absurd x8.ok nok
    · exact ⟨s', x1, x2, x3⟩
end MJA54
end
