/-! ===== the Coder: if, while ===== -/
section MJA44
variable {E : EV} {d N q c t n e k u v i m o w cs c0 c1 kq nt D me i0 td kn f : Nat} {s s1 s2 s' s0 : mjSt3} {j j0 j' jb : JS} {y : PZ} {z : PB} {os : List Row} {l l1 : List Ins} {r : Row} {al : Bool} {bl : Nat → Nat → Nat → Nat → PY}
theorem CL.patch {a b : List Ins} {x y z : Int32} (h : CL q s cs (a ++ (x, y, z) :: b)) (v : Int32) : CL q (uI s (q + 26) (upd (s.1 (q + 26)) (cs + a.length) v)) cs (a ++ (x, v, z) :: b) := by
  intro i e he
  have r25 : (uI s (q + 26) (upd (s.1 (q + 26)) (cs + a.length) v)).1 (q + 25) = s.1 (q + 25) := uI_ne _ _ _ _ (by omega)
  have r27 : (uI s (q + 26) (upd (s.1 (q + 26)) (cs + a.length) v)).1 (q + 27) = s.1 (q + 27) := uI_ne _ _ _ _ (by omega)
  rw [r25, r27, uI_same, upd_g]
  by_cases g : i = a.length
  · subst g
    rw [List.getElem?_append_right (Nat.le_refl _), Nat.sub_self] at he
    cases he
    have := h a.length (x, y, z) (by rw [List.getElem?_append_right (Nat.le_refl _), Nat.sub_self]; rfl)
    rw [if_pos rfl]
    exact ⟨this.1, rfl, this.2.2⟩
  · rw [if_neg (by omega)]
    refine h i e ?_
    by_cases g2 : i < a.length
    · rw [List.getElem?_append_left g2] at he ⊢; exact he
    · rw [List.getElem?_append_right (by omega)] at he ⊢
      obtain ⟨m, hm⟩ : ∃ m, i - a.length = m + 1 := ⟨i - a.length - 1, by omega⟩
      rw [hm] at he ⊢
      exact he
theorem oE.pt (v : Int32) (m : Nat) : oE q s (uI s (q + 26) (upd (s.1 (q + 26)) m v)) := by
  refine ⟨fun h k hk => ?_, fun _ _ _ => rfl, rfl⟩
  rw [uI_ne _ _ _ _ (fun e => hk (Or.inr (Or.inr ⟨by omega, by omega⟩)))]
theorem CP.pt (v : Int32) (hm : cs ≤ m) : CP q cs s (uI s (q + 26) (upd (s.1 (q + 26)) m v)) := by
  intro i hi
  have r25 : (uI s (q + 26) (upd (s.1 (q + 26)) m v)).1 (q + 25) = s.1 (q + 25) := uI_ne _ _ _ _ (by omega)
  have r27 : (uI s (q + 26) (upd (s.1 (q + 26)) m v)).1 (q + 27) = s.1 (q + 27) := uI_ne _ _ _ _ (by omega)
  rw [r25, r27, uI_same, upd_g, if_neg (by omega)]
  exact ⟨rfl, rfl, rfl⟩
theorem ts_row (x a b : Int32) (nm : Int64) : jrow E (21, x, a, b, nm) (jE j t al) = if t = 0 then some (j, [(7, nI (E.2.2.2.2.2.2 a.toNatClampNeg), -1)]) else none := rfl
theorem jp_row (x a b : Int32) (nm : Int64) : jrow E (22, x, a, b, nm) j = some (j, [(6, nI (E.2.2.2.2.2.2 a.toNatClampNeg), -1)]) := rfl
theorem bk_row (x a b : Int32) (nm : Int64) : jrow E (23, x, a, b, nm) j = some (j, [(6, nI (E.2.2.2.2.2.2 a.toNatClampNeg), -1)]) := rfl
theorem rd_row (x a b : Int32) (nm : Int64) : jrow E (2, x, a, b, nm) j = some (j, [(11, 0, -1)]) := rfl
theorem jE2 {a b : List Row} {la : List Ins} {r : Row} {lr : List Ins} (h : jrun E a j = some (j', la)) (g : jrow E r j' = some (j0, lr)) : jrun E (a ++ r :: b) j = match jrun E b j0 with
    | none => none
    | some (j2, c2) => some (j2, la ++ lr ++ c2) := by
  rw [jrun_app, h]
  dsimp only
  rw [jcons _ _ g]
  cases jrun E b j0 with
  | none => rfl
  | some x =>
    dsimp only
    rw [List.append_assoc]
/-- ( E ) BLOCK -/
theorem grdC {x : PZ × PB} {pl a : Int32} (ho : o ≤ 12) (hD : 96 ≤ D) (h7 : hSt E N q (D + 1) 7 2 bl) (hlt : ∀ c td kq i0 x, bl c td kq i0 = .inr x → c < x.1) (hc : c < N) (C : CE E N q s j cs) (hR : RT E s) (hV : VD j) (f0 : fne s c) (hz : pGrd E.1 (N + 1) bl o c j.2.2.2.1 kq i0 = .inr x) (hK : KT E.2.2.2.1 kq (x.1.2.2.1 ++ x.2.2.2.1)) (hA : AG s (x.1.2.2.2.2 ++ x.2.2.2.2.2)) (hP : PS E i0 cs (x.1.2.2.2.1 ++ (21, pl, a, 0, 0) :: x.2.2.2.2.1) j) (hb : cs + (x.2.1 - (c + 1)) ≤ 3091) (hi0 : i0 + x.1.2.2.2.1.length + 1 + x.2.2.2.2.1.length ≤ 100000) (hkq : kq + x.1.2.2.1.length + x.2.2.2.1.length ≤ 100000) : (∃ s1 s2 jB lE lB al, mjF (D + 1) 10 [.ref 75] (mjW0 s) = some (some (.int (nI (cs + lE.length))), mjW0 s1) ∧ mjF (D + 1) 7 [.ref 75] (mjW0 s1) = some (none, mjW0 s2) ∧ jrun E x.1.2.2.2.1 j = some (jE j 0 al, lE) ∧ jrun E x.2.2.2.2.1 j = some (jB, lB) ∧ CE E N q s2 jB (cs + lE.length + 1 + lB.length) ∧ fne s2 x.2.1 ∧ CL q s2 cs (lE ++ (7, 0, -1) :: lB) ∧ CP q cs s s2 ∧ oSt q s s2 ∧ lE.length + lB.length + c + 5 ≤ x.2.1 ∧ x.2.1 ≤ N ∧ JK j jB ∧ jB.2.2.2.1 = x.2.2.1) ∨ (∃ s1 n' s2, mjF (D + 1) 10 [.ref 75] (mjW0 s) = some (some (.int (nI n')), mjW0 s1) ∧ mjF (D + 1) 7 [.ref 75] (mjW0 s1) = some (none, mjW0 s2) ∧ n' ≤ 3100 ∧ BC E.1 N q E.2.1 E.2.2.1 s2 ∧ oC q s s2 ∧ ∀ tl, jrun E (x.1.2.2.2.1 ++ (21, pl, a, 0, 0) :: (x.2.2.2.2.1 ++ tl)) j = none) := by
  have hT := C.TH
  have h0 := hT.2.2.1
  have hq' : q = 2 ∨ q = 30 := C.pq
  unfold pGrd at hz
  by_cases e40 : (E.1 (c + 1)).1 = 40
  · rw [if_pos e40] at hz
    by_cases o12 : o = 12
    · rw [if_pos o12] at hz; cases hz
    rw [if_neg o12] at hz
    cases hv : prV E.1 (N + 1) (o + 1) (c + 2) kq with
    | inl e => rw [hv] at hz; cases hz
    | inr y =>
      rw [hv] at hz
      dsimp only at hz
      have yl := (prE_len (T := E.1) (M := N + 1) 100 0 (o + 1) (c + 2) kq y (by omega) hv).1
      by_cases e41 : (E.1 y.1).1 = 41
      · rw [if_pos e41] at hz
        cases hbl : bl (y.1 + 1) j.2.2.2.1 (kq + y.2.2.1.length) (i0 + y.2.2.2.1.length + 1) with
        | inl e => rw [hbl] at hz; cases hz
        | inr z =>
          rw [hbl] at hz
          cases hz
          dsimp only at hK hA hP hb hi0 hkq ⊢
          have zl := hlt _ _ _ _ _ hbl
          have cN : c + 1 < N := lt_z h0 (show c + 1 ≤ N by omega) e40 (by decide)
          rcases x_10 (o := o + 1) (by omega) hD (show c ≤ N by omega) cN C f0 hv e41 (KT.app hK).1 (AG.app hA).1 (by omega) with ⟨s1, al, lE, g1, g2, g3, g4, g5, g6, g7, g8, g9⟩ | ⟨s1, n', g1, g2, g3, g4, g5⟩
          · have C1 : CE E N q s1 j (cs + lE.length + 1) := C.go g7 g4
            have tr := ts_row (E := E) (j := j) (t := 0) (al := al) pl a 0 0
            rw [if_pos rfl] at tr
            have P1 : PS E (i0 + (y.2.2.2.1 ++ [((21, pl, a, 0, 0) : Row)]).length) (cs + (lE ++ [((7, nI (E.2.2.2.2.2.2 a.toNatClampNeg), -1) : Ins)]).length) z.2.2.2.1 j := by
              refine PS.sub (j := j) (a := y.2.2.2.1 ++ [((21, pl, a, 0, 0) : Row)]) (b := z.2.2.2.1) (j1 := j) (l1 := lE ++ [(7, nI (E.2.2.2.2.2.2 a.toNatClampNeg), -1)]) ?_ ?_
              · rw [List.append_assoc]; exact hP
              · rw [jrun_app, g2]
                dsimp only
                rw [jrun_1, tr]
            rw [List.length_append, List.length_singleton, List.length_append, List.length_singleton, ← Nat.add_assoc, ← Nat.add_assoc] at P1
            have G := h7 (y.1 + 1) (kq + y.2.2.1.length) (i0 + y.2.2.2.1.length + 1) (cs + lE.length + 1) s1 j z g9 C1 (hR.oSt C.pq g7.S) hV g3 hbl (KT.app hK).2 ((AG.app hA).2.oSt C.pq g7.S) P1 (by omega) (by omega) (by omega)
            rcases G with ⟨s2, jB, lB, r1, ⟨b1, b2', b3, b4, b5, b6, b7, b8, b9⟩, r3⟩ | ⟨s2, r1, r2, r3, r4⟩
            · refine Or.inl ⟨s1, s2, jB, lE, lB, al, g1, r1, g2, b1, b2', b3, ?_, CP.trn g6 (b5.mono (by omega)), g7.S.tr b6, by omega, b8, b9, r3⟩
              have c1 := (g5.keep (show CP q (cs + (lE ++ [((7, 0, -1) : Ins)]).length) s1 s2 by rw [List.length_append, List.length_singleton, ← Nat.add_assoc]; exact b5)).app (show CL q s2 (cs + (lE ++ [((7, 0, -1) : Ins)]).length) lB by rw [List.length_append, List.length_singleton, ← Nat.add_assoc]; exact b4)
              rw [List.append_assoc] at c1
              exact c1
            · refine Or.inr ⟨s1, cs + lE.length, s2, g1, r1, by omega, r3, g7.C.tr r4, fun tl => ?_⟩
              rw [jE2 g2 tr, jrun_no r2]
          · obtain ⟨s2, w1, w2, w3⟩ := n_7 (d := D - 1) g3
            rw [show D - 1 + 2 = D + 1 by omega] at w1
            refine Or.inr ⟨s1, n', s2, g1, w1, g2, w2, g4.tr w3, fun tl => ?_⟩
            rcases g5 with h | ⟨t, al, l, h, ht⟩
            · exact jrun_no h
            · refine jrun_no3 h ?_
              rw [ts_row, if_neg ht]
      · rw [if_neg e41] at hz; cases hz
  · rw [if_neg e40] at hz; cases hz
/-- the head: the jump over the BLOCK comes to what follows -/
theorem x_9 {z : PB} {rest : List Row} (ho : o ≤ 12) (hD : 96 ≤ D) (h7 : hSt E N q (D + 1) 7 2 bl) (hlt : ∀ c td kq i0 x, bl c td kq i0 = .inr x → c < x.1) (hc : c < N) (C : CE E N q s j cs) (hR : RT E s) (hV : VD j) (f0 : fne s c) (hz : pIf E.1 (N + 1) bl o c j.2.2.2.1 kq i0 = .inr z) (er : z.2.2.2.1 = oLine E.1 c :: rest) (hK : KT E.2.2.2.1 kq z.2.2.1) (hA : AG s z.2.2.2.2) (hP : PS E (i0 + 1) cs rest j) (hb : cs + (z.1 - (c + 1)) ≤ 3090) (hi0 : i0 + z.2.2.2.1.length ≤ 100000) (hkq : kq + z.2.2.1.length ≤ 100000) : gSm E N q s (c + 1) cs j rest (mjF (D + 2) 9 [.ref 75] (mjW0 s)) z.1 z.2.1 := by
  have hT := C.TH
  have h0 := hT.2.2.1
  have hq' : q = 2 ∨ q = 30 := C.pq
  have pre : mjF (D + 2) 9 [.ref 75] (mjW0 s) = _ := e_9 (d := D + 1)
  unfold f_9 b_9_0 at pre
  unfold pIf at hz
  cases hg : pGrd E.1 (N + 1) bl o c j.2.2.2.1 kq (i0 + 1) with
  | inl e => rw [hg] at hz; cases hz
  | inr x =>
    obtain ⟨y, b⟩ := x
    rw [hg] at hz
    dsimp only at hz
    by_cases e16 : (E.1 b.1).1 = 16
    · rw [if_pos e16] at hz
      cases hw : bl (b.1 + 1) b.2.1 (kq + y.2.2.1.length + b.2.2.1.length) (i0 + 3 + y.2.2.2.1.length + b.2.2.2.1.length) with
      | inl e => rw [hw] at hz; cases hz
      | inr w =>
        rw [hw] at hz
        cases hz
        cases er
        dsimp only at hK hA hb hi0 hkq ⊢
        have wl := hlt _ _ _ _ _ hw
        have len1 : (oLine E.1 c :: (y.2.2.2.1 ++ (21, (E.1 c).2.1, nI (i0 + 3 + y.2.2.2.1.length + b.2.2.2.1.length), 0, 0) :: (b.2.2.2.1 ++ (22, -1, nI (i0 + 3 + y.2.2.2.1.length + b.2.2.2.1.length + w.2.2.2.1.length), 0, 0) :: w.2.2.2.1))).length = 3 + y.2.2.2.1.length + b.2.2.2.1.length + w.2.2.2.1.length := by rw [List.length_cons, List.length_append, List.length_cons, List.length_append, List.length_cons]; omega
        rw [len1] at hi0
        rw [List.length_append, List.length_append] at hkq
        have K2 := (KT.app hK).2
        rw [List.length_append, ← Nat.add_assoc] at K2
        have hP1 : PS E (i0 + 1) cs (y.2.2.2.1 ++ (21, (E.1 c).2.1, nI (i0 + 3 + y.2.2.2.1.length + b.2.2.2.1.length), 0, 0) :: b.2.2.2.1) j := by
          refine PS.prf (b := (22, -1, nI (i0 + 3 + y.2.2.2.1.length + b.2.2.2.1.length + w.2.2.2.1.length), 0, 0) :: w.2.2.2.1) ?_
          rw [List.append_assoc]; exact hP
        have G := grdC (pl := (E.1 c).2.1) (a := nI (i0 + 3 + y.2.2.2.1.length + b.2.2.2.1.length)) ho hD h7 hlt hc C hR hV f0 hg (KT.app hK).1 (AG.app hA).1 hP1 (by dsimp only; omega) (by dsimp only; omega) (by dsimp only; omega)
        dsimp only at G
        rcases G with ⟨s1, s2, jB, lE, lB, al, g1, g2, g3, g4, g5, g6, g7, g8, g9, g10, g11, g12, g13⟩ | ⟨s1, n', s2, g1, g2, g3, g4, g5, g6⟩
        · have bN := lt_z h0 g11 e16 (by decide)
          have ts := ts_row (E := E) (j := j) (t := 0) (al := al) (E.1 c).2.1 (nI (i0 + 3 + y.2.2.2.1.length + b.2.2.2.1.length)) 0 0
          rw [if_pos rfl, nI_clamp (by omega)] at ts
          have jp := jp_row (E := E) (j := jB) (-1) (nI (i0 + 3 + y.2.2.2.1.length + b.2.2.2.1.length + w.2.2.2.1.length)) 0 0
          rw [nI_clamp (by omega)] at jp
          have ja : ∀ r2, jrun E (y.2.2.2.1 ++ (21, (E.1 c).2.1, nI (i0 + 3 + y.2.2.2.1.length + b.2.2.2.1.length), 0, 0) :: (b.2.2.2.1 ++ (22, -1, nI (i0 + 3 + y.2.2.2.1.length + b.2.2.2.1.length + w.2.2.2.1.length), 0, 0) :: r2)) j = match jrun E r2 jB with
              | none => none
              | some (j2, c2) => some (j2, lE ++ [(7, nI (E.2.2.2.2.2.2 (i0 + 3 + y.2.2.2.1.length + b.2.2.2.1.length)), -1)] ++ (lB ++ [(6, nI (E.2.2.2.2.2.2 (i0 + 3 + y.2.2.2.1.length + b.2.2.2.1.length + w.2.2.2.1.length)), -1)] ++ c2)) := by
            intro r2
            rw [jE2 g3 ts, jE2 g4 jp]
            cases jrun E r2 jB with
            | none => rfl
            | some x => rfl
          have ps1 := hP (y.2.2.2.1 ++ (21, (E.1 c).2.1, nI (i0 + 3 + y.2.2.2.1.length + b.2.2.2.1.length), 0, 0) :: (b.2.2.2.1 ++ [(22, -1, nI (i0 + 3 + y.2.2.2.1.length + b.2.2.2.1.length + w.2.2.2.1.length), 0, 0)])) w.2.2.2.1 _ _ (by simp only [List.append_assoc, List.cons_append, List.nil_append]) (ja [])
          have P2 := PS.sub (a := y.2.2.2.1 ++ (21, (E.1 c).2.1, nI (i0 + 3 + y.2.2.2.1.length + b.2.2.2.1.length), 0, 0) :: (b.2.2.2.1 ++ [(22, -1, nI (i0 + 3 + y.2.2.2.1.length + b.2.2.2.1.length + w.2.2.2.1.length), 0, 0)])) (b := w.2.2.2.1) (j := j) (E := E) (i0 := i0 + 1) (cs := cs) (by rw [List.append_assoc, List.cons_append, List.append_assoc]; exact hP) (ja [])
          rw [List.append_nil] at ps1 P2
          rw [List.length_append, List.length_cons, List.length_append, List.length_singleton, List.length_append, List.length_append, List.length_singleton, List.length_append, List.length_singleton] at ps1 P2
          rw [show i0 + 1 + (y.2.2.2.1.length + (b.2.2.2.1.length + 1 + 1)) = i0 + 3 + y.2.2.2.1.length + b.2.2.2.1.length by omega, show cs + (lE.length + 1 + (lB.length + 1)) = cs + lE.length + 1 + lB.length + 1 by omega] at ps1 P2
          -- the state
          have xg : o58 s2 (tkGo s2 (b.1 + 1)) := o58.go _ _
          have C3 : CE E N q (tkGo s2 (b.1 + 1)) jB (cs + lE.length + 1 + lB.length) := g5.go xg.oe (by rw [xg.r (by omega)]; exact g5.2.2.2.2)
          obtain ⟨s4, w1, w2, w3, w4, w5, w6⟩ := put1 (d := D) C3 (by omega) 6 0 (-1)
          have C4 := C3.go w2 w4
          have x2 := x_2 (d := D) (m := cs + lE.length) C.pq w4 (by omega)
          obtain ⟨s5, hs5⟩ : ∃ z, z = uI s4 (q + 26) (upd (s4.1 (q + 26)) (cs + lE.length) (nI (cs + lE.length + 1 + lB.length + 1))) := ⟨_, rfl⟩
          have oe5 : oE q s4 s5 := by rw [hs5]; exact oE.pt _ _
          rw [← hs5] at x2
          have sz5 : s5.1 (q + 24) 3 = nI (cs + lE.length + 1 + lB.length + 1) := by rw [hs5, uI_ne _ _ _ _ (by omega)]; exact w4
          have C5 := C4.go oe5 sz5
          have r58 : s5.1 58 = (tkGo s2 (b.1 + 1)).1 58 := by rw [hs5, uI_ne _ _ _ _ (by omega), w3]
          have f5 : fne s5 (b.1 + 1) := ⟨by rw [r58]; exact (g6.go (b.1 + 1)).1, by rw [r58]; exact (g6.go (b.1 + 1)).2⟩
          have fr5 : oSt q s s5 := g9.tr (oE.S (xg.oe.tr (w2.tr oe5)))
          have lA : (lE ++ ((7, 0, -1) : Ins) :: lB).length = lE.length + 1 + lB.length := by rw [List.length_append, List.length_cons]; omega
          have cl4 : CL q s4 cs (lE ++ (7, 0, -1) :: (lB ++ [(6, 0, -1)])) := by
            have c1 := ((g7.keep (CP.o58 C.pq xg)).keep (show CP q (cs + (lE ++ ((7, 0, -1) : Ins) :: lB).length) (tkGo s2 (b.1 + 1)) s4 by rw [lA, ← Nat.add_assoc, ← Nat.add_assoc]; exact w6)).app (show CL q s4 (cs + (lE ++ ((7, 0, -1) : Ins) :: lB).length) [(6, 0, -1)] by rw [lA, ← Nat.add_assoc, ← Nat.add_assoc]; exact w5)
            rw [List.append_assoc] at c1
            exact c1
          have cl5 : CL q s5 cs (lE ++ (7, nI (cs + lE.length + 1 + lB.length + 1), -1) :: (lB ++ [(6, 0, -1)])) := by rw [hs5]; exact cl4.patch _
          have G2 := h7 (b.1 + 1) (kq + y.2.2.1.length + b.2.2.1.length) (i0 + 3 + y.2.2.2.1.length + b.2.2.2.1.length) (cs + lE.length + 1 + lB.length + 1) s5 jB w (by omega) C5 (hR.oSt C.pq fr5) (hV.jk g12) f5 (by rw [g13]; exact hw) K2 ((AG.app hA).2.oSt C.pq fr5) P2 (by omega) (by omega) (by omega)
          rw [xV_75, g1, bI_s, xV_75, g2, bN_s, xg_75_0, xV_58, j_is g5.TH g6.1 g11, bI_s, i01, if_pos e16, xg_75_0, xV_58, j_skip g5.TH g6 bN, bN_s, xg_75_5, C3.1.2.2.2.2.2.2.2, ycV C.pq, w1, bI_s, xg_75_5, C4.1.2.2.2.2.2.2.2, ycV C.pq, x2, bN_s, xV_75] at pre
          rcases G2 with ⟨s6, jC, lC, r1, ⟨b1, b2', b3, b4, b5, b6, b7, b8, b9⟩, r3⟩ | ⟨s6, r1, r2, r3, r4⟩
          · have jr := ja w.2.2.2.1
            rw [b1] at jr
            dsimp only at jr
            have ps2 := hP _ [] _ _ (List.append_nil _).symm jr
            rw [List.length_append, List.length_cons, List.length_append, List.length_cons, List.length_append, List.length_append, List.length_append, List.length_append, List.length_singleton, List.length_singleton, show i0 + 1 + (y.2.2.2.1.length + (b.2.2.2.1.length + (w.2.2.2.1.length + 1) + 1)) = i0 + 3 + y.2.2.2.1.length + b.2.2.2.1.length + w.2.2.2.1.length by omega, show cs + (lE.length + 1 + (lB.length + 1 + lC.length)) = cs + lE.length + 1 + lB.length + 1 + lC.length by omega] at ps2
            rw [ps1, ps2] at jr
            have x3 := x_2 (d := D) (m := cs + lE.length + 1 + lB.length) C.pq b2'.2.2.2.2 (by omega)
            obtain ⟨s7, hs7⟩ : ∃ z, z = uI s6 (q + 26) (upd (s6.1 (q + 26)) (cs + lE.length + 1 + lB.length) (nI (cs + lE.length + 1 + lB.length + 1 + lC.length))) := ⟨_, rfl⟩
            rw [← hs7] at x3
            have oe7 : oE q s6 s7 := by rw [hs7]; exact oE.pt _ _
            rw [r1, bN_s, xg_75_5, b2'.1.2.2.2.2.2.2.2, ycV C.pq, x3, bN_s] at pre
            have ltot : (lE ++ [((7, nI (cs + lE.length + 1 + lB.length + 1), -1) : Ins)] ++ (lB ++ [(6, nI (cs + lE.length + 1 + lB.length + 1 + lC.length), -1)] ++ lC)).length = lE.length + 1 + (lB.length + 1 + lC.length) := by
              rw [List.length_append, List.length_append, List.length_append, List.length_append, List.length_singleton, List.length_singleton]
            have sz7 : s7.1 (q + 24) 3 = nI (cs + (lE ++ [((7, nI (cs + lE.length + 1 + lB.length + 1), -1) : Ins)] ++ (lB ++ [(6, nI (cs + lE.length + 1 + lB.length + 1 + lC.length), -1)] ++ lC)).length) := by
              rw [ltot, hs7, uI_ne _ _ _ _ (by omega), b2'.2.2.2.2, show cs + (lE.length + 1 + (lB.length + 1 + lC.length)) = cs + lE.length + 1 + lB.length + 1 + lC.length by omega]
            refine Or.inl ⟨s7, jC, _, pre, ⟨jr, b2'.go oe7 sz7, ?_, ?_, ?_, fr5.tr (b6.tr oe7.S), ?_, b8, g12.trn b9⟩, r3⟩
            · have : s7.1 58 = s6.1 58 := by rw [hs7, uI_ne _ _ _ _ (by omega)]
              exact ⟨by rw [this]; exact b3.1, by rw [this]; exact b3.2⟩
            · have l5 : (lE ++ ((7, nI (cs + lE.length + 1 + lB.length + 1), -1) : Ins) :: (lB ++ [(6, 0, -1)])).length = lE.length + 1 + lB.length + 1 := by rw [List.length_append, List.length_cons, List.length_append, List.length_singleton]; omega
              have c6 := (cl5.keep (show CP q (cs + (lE ++ ((7, nI (cs + lE.length + 1 + lB.length + 1), -1) : Ins) :: (lB ++ [(6, 0, -1)])).length) s5 s6 by rw [l5, ← Nat.add_assoc, ← Nat.add_assoc, ← Nat.add_assoc]; exact b5)).app (show CL q s6 (cs + (lE ++ ((7, nI (cs + lE.length + 1 + lB.length + 1), -1) : Ins) :: (lB ++ [(6, 0, -1)])).length) lC by rw [l5, ← Nat.add_assoc, ← Nat.add_assoc, ← Nat.add_assoc]; exact b4)
              have e6 : (lE ++ ((7, nI (cs + lE.length + 1 + lB.length + 1), -1) : Ins) :: (lB ++ [(6, 0, -1)])) ++ lC = (lE ++ (7, nI (cs + lE.length + 1 + lB.length + 1), -1) :: lB) ++ (6, 0, -1) :: lC := by simp only [List.append_assoc, List.cons_append, List.nil_append]
              rw [e6] at c6
              have c7 := c6.patch (nI (cs + lE.length + 1 + lB.length + 1 + lC.length))
              have la7 : (lE ++ ((7, nI (cs + lE.length + 1 + lB.length + 1), -1) : Ins) :: lB).length = lE.length + 1 + lB.length := by rw [List.length_append, List.length_cons]; omega
              rw [la7, ← Nat.add_assoc, ← Nat.add_assoc, ← hs7] at c7
              have e7 : lE ++ [((7, nI (cs + lE.length + 1 + lB.length + 1), -1) : Ins)] ++ (lB ++ [(6, nI (cs + lE.length + 1 + lB.length + 1 + lC.length), -1)] ++ lC) = (lE ++ (7, nI (cs + lE.length + 1 + lB.length + 1), -1) :: lB) ++ (6, nI (cs + lE.length + 1 + lB.length + 1 + lC.length), -1) :: lC := by simp only [List.append_assoc, List.cons_append, List.nil_append]
              rw [e7]
              exact c7
            · have p5 : CP q cs s4 s5 := by rw [hs5]; exact CP.pt _ (by omega)
              have p7 : CP q cs s6 s7 := by rw [hs7]; exact CP.pt _ (by omega)
              exact CP.trn g8 (CP.trn (CP.o58 C.pq xg) (CP.trn (w6.mono (by omega)) (CP.trn p5 (CP.trn (b5.mono (by omega)) p7))))
            · rw [ltot]; omega
          · obtain ⟨s7, v1, v2, v3, v4, v5⟩ := x_2B (d := D) (m := cs + lE.length + 1 + lB.length) C.pq r3.2.2.1.choose_spec.2 (by omega)
            have B7 : BC E.1 N q E.2.1 E.2.2.1 s7 := r3.oo v2 ⟨by rw [v3]; exact r3.2.1.1, by rw [v3]; exact r3.2.1.2⟩ (by rw [v5]; exact r3.2.2.1) (by rw [v4]; exact r3.2.2.2)
            rw [r1, bN_s, xg_75_5, r3.1.2.2.2.2.2.2.2, ycV C.pq, v1, bN_s] at pre
            refine Or.inr ⟨s7, pre, ?_, B7, fr5.C.tr (r4.tr v2)⟩
            rw [ja, r2]
        · obtain ⟨s3, w1, w2, w3, w4, w5⟩ := x_2B (d := D) (m := n') C.pq g4.2.2.1.choose_spec.2 g3
          have B3 : BC E.1 N q E.2.1 E.2.2.1 s3 := g4.oo w2 ⟨by rw [w3]; exact g4.2.1.1, by rw [w3]; exact g4.2.1.2⟩ (by rw [w5]; exact g4.2.2.1) (by rw [w4]; exact g4.2.2.2)
          rw [xV_75, g1, bI_s, xV_75, g2, bN_s, xg_75_0, xV_58, kN0 g4 (by decide), bI_s, if_pos rfl, xg_75_5, g4.1.2.2.2.2.2.2.2, ycV C.pq, w1, bN_s] at pre
          exact Or.inr ⟨s3, pre, g6 _, B3, g5.tr w2⟩
    · rw [if_neg e16] at hz
      cases hz
      cases er
      dsimp only at hK hA hb hi0 hkq ⊢
      have len1 : (oLine E.1 c :: (y.2.2.2.1 ++ (21, (E.1 c).2.1, nI (i0 + 2 + y.2.2.2.1.length + b.2.2.2.1.length), 0, 0) :: b.2.2.2.1)).length = 2 + y.2.2.2.1.length + b.2.2.2.1.length := by rw [List.length_cons, List.length_append, List.length_cons]; omega
      rw [len1] at hi0
      rw [List.length_append] at hkq
      have G := grdC (pl := (E.1 c).2.1) (a := nI (i0 + 2 + y.2.2.2.1.length + b.2.2.2.1.length)) ho hD h7 hlt hc C hR hV f0 hg hK hA hP (by dsimp only; omega) (by dsimp only; omega) (by dsimp only; omega)
      dsimp only at G
      rcases G with ⟨s1, s2, jB, lE, lB, al, g1, g2, g3, g4, g5, g6, g7, g8, g9, g10, g11, g12, g13⟩ | ⟨s1, n', s2, g1, g2, g3, g4, g5, g6⟩
      · have ts := ts_row (E := E) (j := j) (t := 0) (al := al) (E.1 c).2.1 (nI (i0 + 2 + y.2.2.2.1.length + b.2.2.2.1.length)) 0 0
        rw [if_pos rfl, nI_clamp (by omega)] at ts
        have jr := jE2 (b := b.2.2.2.1) g3 ts
        rw [g4] at jr
        dsimp only at jr
        have ps := hP _ [] _ _ (List.append_nil _).symm jr
        rw [List.length_append, List.length_cons, List.length_append, List.length_append, List.length_singleton, show i0 + 1 + (y.2.2.2.1.length + (b.2.2.2.1.length + 1)) = i0 + 2 + y.2.2.2.1.length + b.2.2.2.1.length by omega] at ps
        rw [ps] at jr
        have cp := g7.patch (nI (cs + (lE.length + 1 + lB.length)))
        have x2 := x_2 (d := D) (m := cs + lE.length) C.pq g5.2.2.2.2 (by omega)
        rw [xV_75, g1, bI_s, xV_75, g2, bN_s, xg_75_0, xV_58, j_is g5.TH g6.1 g11, bI_s, i01, if_neg e16, xg_75_5, g5.1.2.2.2.2.2.2.2, ycV C.pq, x2, bN_s, show cs + lE.length + 1 + lB.length = cs + (lE.length + 1 + lB.length) by omega] at pre
        have oe := oE.pt (q := q) (s := s2) (nI (cs + (lE.length + 1 + lB.length))) (cs + lE.length)
        have sz : (uI s2 (q + 26) (upd (s2.1 (q + 26)) (cs + lE.length) (nI (cs + (lE.length + 1 + lB.length))))).1 (q + 24) 3 = nI (cs + (lE ++ [((7, nI (cs + (lE.length + 1 + lB.length)), -1) : Ins)] ++ lB).length) := by
          rw [uI_ne _ _ _ _ (by omega), g5.2.2.2.2, List.length_append, List.length_append, List.length_singleton]
          rw [show cs + lE.length + 1 + lB.length = cs + (lE.length + 1 + lB.length) by omega]
        refine Or.inl ⟨_, jB, lE ++ [(7, nI (cs + (lE.length + 1 + lB.length)), -1)] ++ lB, pre, ⟨jr, g5.go oe sz, ?_, ?_, CP.trn g8 (CP.pt _ (by omega)), g9.tr oe.S, ?_, g11, g12⟩, g13⟩
        · exact ⟨by rw [uI_ne _ _ _ _ (by omega)]; exact g6.1, by rw [uI_ne _ _ _ _ (by omega)]; exact g6.2⟩
        · rw [List.append_assoc]; exact cp
        · rw [List.length_append, List.length_append, List.length_singleton]; omega
      · obtain ⟨s3, w1, w2, w3, w4, w5⟩ := x_2B (d := D) (m := n') C.pq g4.2.2.1.choose_spec.2 g3
        have B3 : BC E.1 N q E.2.1 E.2.2.1 s3 := g4.oo w2 ⟨by rw [w3]; exact g4.2.1.1, by rw [w3]; exact g4.2.1.2⟩ (by rw [w5]; exact g4.2.2.1) (by rw [w4]; exact g4.2.2.2)
        rw [xV_75, g1, bI_s, xV_75, g2, bN_s, xg_75_0, xV_58, kN0 g4 (by decide), bI_s, if_pos rfl, xg_75_5, g4.1.2.2.2.2.2.2.2, ycV C.pq, w1, bN_s] at pre
        have := g6 []
        rw [List.append_nil] at this
        exact Or.inr ⟨s3, pre, this, B3, g5.tr w2⟩
end MJA44
