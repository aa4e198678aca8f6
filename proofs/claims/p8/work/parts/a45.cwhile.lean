/-! ===== the Coder: while; STATEMENTS ===== -/
section MJA45
variable {E : EV} {d N q c t n e k u v i m o w cs c0 c1 kq nt D me i0 td kn f : Nat} {s s1 s2 s' s0 : mjSt3} {j j0 j' jb : JS} {y : PZ} {z : PB} {os : List Row} {l l1 : List Ins} {r : Row} {al : Bool} {bl : Nat → Nat → Nat → Nat → PY}
theorem x_31 {z : PB} {rest : List Row} (ho : o ≤ 12) (hD : 96 ≤ D) (h7 : hSt E N q (D + 1) 7 2 bl) (hlt : ∀ c td kq i0 x, bl c td kq i0 = .inr x → c < x.1) (hc : c < N) (C : CE E N q s j cs) (hR : RT E s) (hV : VD j) (f0 : fne s c) (hz : pWhile E.1 (N + 1) bl o c j.2.2.2.1 kq i0 = .inr z) (er : z.2.2.2.1 = oLine E.1 c :: rest) (hK : KT E.2.2.2.1 kq z.2.2.1) (hA : AG s z.2.2.2.2) (hP : PS E (i0 + 1) cs rest j) (hb : cs + (z.1 - (c + 1)) ≤ 3090) (hi0 : i0 + z.2.2.2.1.length ≤ 100000) (hkq : kq + z.2.2.1.length ≤ 100000) : gSm E N q s (c + 1) cs j rest (mjF (D + 2) 31 [.ref 75] (mjW0 s)) z.1 z.2.1 := by
  have hT := C.TH
  have h0 := hT.2.2.1
  have hq' : q = 2 ∨ q = 30 := C.pq
  have pre : mjF (D + 2) 31 [.ref 75] (mjW0 s) = _ := e_31 (d := D + 1)
  unfold f_31 b_31_0 at pre
  unfold pWhile at hz
  cases hg : pGrd E.1 (N + 1) bl o c j.2.2.2.1 kq (i0 + 2) with
  | inl e => rw [hg] at hz; cases hz
  | inr x =>
    obtain ⟨y, b⟩ := x
    rw [hg] at hz
    cases hz
    cases er
    dsimp only at hK hA hb hi0 hkq ⊢
    have len1 : (oLine E.1 c :: (2, (E.1 c).2.1, 0, 0, 0) :: (y.2.2.2.1 ++ (21, (E.1 c).2.1, nI (i0 + 4 + y.2.2.2.1.length + b.2.2.2.1.length), 0, 0) :: (b.2.2.2.1 ++ [(23, -1, nI (i0 + 1), 0, 0)]))).length = 4 + y.2.2.2.1.length + b.2.2.2.1.length := by rw [List.length_cons, List.length_cons, List.length_append, List.length_cons, List.length_append, List.length_singleton]; omega
    rw [len1] at hi0
    rw [List.length_append] at hkq
    have rr := rd_row (E := E) (j := j) (E.1 c).2.1 0 0 0
    have hPb : PS E (i0 + 2) (cs + 1) (y.2.2.2.1 ++ (21, (E.1 c).2.1, nI (i0 + 4 + y.2.2.2.1.length + b.2.2.2.1.length), 0, 0) :: (b.2.2.2.1 ++ [(23, -1, nI (i0 + 1), 0, 0)])) j := by
      have := PS.sub (a := [(2, (E.1 c).2.1, 0, 0, 0)]) (j1 := j) (l1 := [(11, 0, -1)]) hP (by rw [jrun_1]; exact rr)
      exact this
    have hP1 : PS E (i0 + 2) (cs + 1) (y.2.2.2.1 ++ (21, (E.1 c).2.1, nI (i0 + 4 + y.2.2.2.1.length + b.2.2.2.1.length), 0, 0) :: b.2.2.2.1) j := by
      refine PS.prf (b := [(23, -1, nI (i0 + 1), 0, 0)]) ?_
      rw [List.append_assoc]; exact hPb
    have ps0 : E.2.2.2.2.2.2 (i0 + 1) = cs := hP [] _ j [] rfl rfl
    have gl : c + 1 < b.1 := by
      have hg' := hg
      unfold pGrd at hg'
      by_cases e40 : (E.1 (c + 1)).1 = 40
      · rw [if_pos e40] at hg'
        by_cases o12 : o = 12
        · rw [if_pos o12] at hg'; cases hg'
        rw [if_neg o12] at hg'
        cases hv : prV E.1 (N + 1) (o + 1) (c + 2) kq with
        | inl e => rw [hv] at hg'; cases hg'
        | inr v =>
          rw [hv] at hg'
          dsimp only at hg'
          have hl := (prE_len (T := E.1) (M := N + 1) 100 0 (o + 1) (c + 2) kq v (by omega) hv).1
          by_cases g : (E.1 v.1).1 = 41
          · rw [if_pos g] at hg'
            cases hbb : bl (v.1 + 1) j.2.2.2.1 (kq + v.2.2.1.length) (i0 + 2 + v.2.2.2.1.length + 1) with
            | inl e => rw [hbb] at hg'; cases hg'
            | inr w =>
              rw [hbb] at hg'
              cases hg'
              have := hlt _ _ _ _ _ hbb
              omega
          · rw [if_neg g] at hg'; cases hg'
      · rw [if_neg e40] at hg'; cases hg'
    obtain ⟨s1, w1, w2, w3, w4, w5, w6⟩ := put1 (d := D) C (by omega) 11 0 (-1)
    have C1 := C.go w2 w4
    have f1 : fne s1 c := ⟨by rw [w3]; exact f0.1, by rw [w3]; exact f0.2⟩
    rw [xg_75_5, C.1.2.2.2.2.2.2.2, ycV C.pq, w1, bI_s, xV_75] at pre
    have bb : cs + 1 + (b.1 - (c + 1)) ≤ 3091 := by omega
    have G := grdC (cs := cs + 1) (pl := (E.1 c).2.1) (a := nI (i0 + 4 + y.2.2.2.1.length + b.2.2.2.1.length)) ho hD h7 hlt hc C1 (hR.oSt C.pq w2.S) hV f1 hg hK (hA.oSt C.pq w2.S) hP1 (by dsimp only; omega) (by dsimp only; omega) (by dsimp only; omega)
    dsimp only at G
    have j0r : ∀ r2, jrun E ((2, (E.1 c).2.1, 0, 0, 0) :: r2) j = match jrun E r2 j with
        | none => none
        | some (j2, c2) => some (j2, [(11, 0, -1)] ++ c2) := fun r2 => jcons _ _ rr
    rcases G with ⟨s1', s2, jB, lE, lB, al, g1, g2, g3, g4, g5, g6, g7, g8, g9, g10, g11, g12, g13⟩ | ⟨s1', n', s2, g1, g2, g3, g4, g5, g6⟩
    · have ts := ts_row (E := E) (j := j) (t := 0) (al := al) (E.1 c).2.1 (nI (i0 + 4 + y.2.2.2.1.length + b.2.2.2.1.length)) 0 0
      rw [if_pos rfl, nI_clamp (by omega)] at ts
      have bk := bk_row (E := E) (j := jB) (-1) (nI (i0 + 1)) 0 0
      rw [nI_clamp (by omega), ps0] at bk
      have jr : jrun E ((2, (E.1 c).2.1, 0, 0, 0) :: (y.2.2.2.1 ++ (21, (E.1 c).2.1, nI (i0 + 4 + y.2.2.2.1.length + b.2.2.2.1.length), 0, 0) :: (b.2.2.2.1 ++ [(23, -1, nI (i0 + 1), 0, 0)]))) j = some (jB, [(11, 0, -1)] ++ (lE ++ [(7, nI (E.2.2.2.2.2.2 (i0 + 4 + y.2.2.2.1.length + b.2.2.2.1.length)), -1)] ++ (lB ++ [(6, nI cs, -1)]))) := by
        rw [j0r, jE2 g3 ts, jrun_app, g4]
        dsimp only
        rw [jrun_1, bk]
      have ps := hP _ [] _ _ (List.append_nil _).symm jr
      rw [List.length_cons, List.length_append, List.length_cons, List.length_append, List.length_singleton, List.length_append, List.length_append, List.length_append, List.length_append, List.length_singleton, List.length_singleton, List.length_singleton, show i0 + 1 + (y.2.2.2.1.length + (b.2.2.2.1.length + 1 + 1) + 1) = i0 + 4 + y.2.2.2.1.length + b.2.2.2.1.length by omega, show cs + (1 + (lE.length + 1 + (lB.length + 1))) = cs + 1 + lE.length + 1 + lB.length + 1 by omega] at ps
      rw [ps] at jr
      obtain ⟨s3, v1, v2, v3, v4, v5, v6⟩ := put1 (d := D) g5 (by omega) 6 (nI cs) (-1)
      have C3 := g5.go v2 v4
      have x2 := x_2 (d := D) (m := cs + 1 + lE.length) C.pq v4 (by omega)
      obtain ⟨s4, hs4⟩ : ∃ z, z = uI s3 (q + 26) (upd (s3.1 (q + 26)) (cs + 1 + lE.length) (nI (cs + 1 + lE.length + 1 + lB.length + 1))) := ⟨_, rfl⟩
      rw [← hs4] at x2
      have oe4 : oE q s3 s4 := by rw [hs4]; exact oE.pt _ _
      rw [g1, bI_s, xV_75, g2, bN_s, xg_75_5, g5.1.2.2.2.2.2.2.2, ycV C.pq, v1, bI_s, xg_75_5, C3.1.2.2.2.2.2.2.2, ycV C.pq, x2, bN_s] at pre
      have ltot : ([((11, 0, -1) : Ins)] ++ (lE ++ [(7, nI (cs + 1 + lE.length + 1 + lB.length + 1), -1)] ++ (lB ++ [(6, nI cs, -1)]))).length = 1 + (lE.length + 1 + (lB.length + 1)) := by
        rw [List.length_append, List.length_append, List.length_append, List.length_append, List.length_singleton, List.length_singleton, List.length_singleton]
      have sz4 : s4.1 (q + 24) 3 = nI (cs + ([((11, 0, -1) : Ins)] ++ (lE ++ [(7, nI (cs + 1 + lE.length + 1 + lB.length + 1), -1)] ++ (lB ++ [(6, nI cs, -1)]))).length) := by
        rw [ltot, hs4, uI_ne _ _ _ _ (by omega), v4, show cs + (1 + (lE.length + 1 + (lB.length + 1))) = cs + 1 + lE.length + 1 + lB.length + 1 by omega]
      have p4 : ∀ k, k ≤ cs + 1 → CP q k s3 s4 := fun k hk => by rw [hs4]; exact CP.pt _ (by omega)
      refine Or.inl ⟨s4, jB, _, pre, ⟨jr, g5.go (v2.tr oe4) sz4, ?_, ?_, ?_, w2.S.tr (g9.tr (oE.S (v2.tr oe4))), ?_, g11, g12⟩, g13⟩
      · have : s4.1 58 = s2.1 58 := by rw [hs4, uI_ne _ _ _ _ (by omega), v3]
        exact ⟨by rw [this]; exact g6.1, by rw [this]; exact g6.2⟩
      · have lA : (lE ++ ((7, 0, -1) : Ins) :: lB).length = lE.length + 1 + lB.length := by rw [List.length_append, List.length_cons]; omega
        have c3 := (g7.keep (show CP q (cs + 1 + (lE ++ ((7, 0, -1) : Ins) :: lB).length) s2 s3 by rw [lA, ← Nat.add_assoc, ← Nat.add_assoc]; exact v6)).app (show CL q s3 (cs + 1 + (lE ++ ((7, 0, -1) : Ins) :: lB).length) [(6, nI cs, -1)] by rw [lA, ← Nat.add_assoc, ← Nat.add_assoc]; exact v5)
        rw [List.append_assoc] at c3
        have c4 := CL.patch (a := lE) (b := lB ++ [(6, nI cs, -1)]) (x := 7) (y := 0) (z := -1) c3 (nI (cs + 1 + lE.length + 1 + lB.length + 1))
        rw [← hs4] at c4
        have c1 : CL q s4 cs [(11, 0, -1)] := (w5.keep (show CP q (cs + [((11, 0, -1) : Ins)].length) s1 s2 from g8)).keep (show CP q (cs + [((11, 0, -1) : Ins)].length) s2 s4 from CP.trn (v6.mono (by show cs + 1 ≤ _; omega)) (p4 _ (by show cs + 1 ≤ _; omega)))
        have c5 := c1.app (show CL q s4 (cs + [((11, 0, -1) : Ins)].length) _ from c4)
        have e5 : [((11, 0, -1) : Ins)] ++ (lE ++ [(7, nI (cs + 1 + lE.length + 1 + lB.length + 1), -1)] ++ (lB ++ [(6, nI cs, -1)])) = [(11, 0, -1)] ++ (lE ++ (7, nI (cs + 1 + lE.length + 1 + lB.length + 1), -1) :: (lB ++ [(6, nI cs, -1)])) := by simp only [List.append_assoc, List.cons_append, List.nil_append]
        rw [e5]
        exact c5
      · exact CP.trn w6 (CP.trn (g8.mono (by omega)) (CP.trn (v6.mono (by omega)) (p4 _ (by omega))))
      · rw [ltot]; omega
    · obtain ⟨s3, n2, v1, v2, v3, v4, v5⟩ := n_emit (d := D) g4 6 (nI cs) (-1)
      obtain ⟨s4, x1, x2, x3, x4, x5⟩ := x_2B (d := D) (m := n') C.pq v3.2.2.1.choose_spec.2 g3
      have B4 : BC E.1 N q E.2.1 E.2.2.1 s4 := v3.oo x2 ⟨by rw [x3]; exact v3.2.1.1, by rw [x3]; exact v3.2.1.2⟩ (by rw [x5]; exact v3.2.2.1) (by rw [x4]; exact v3.2.2.2)
      rw [g1, bI_s, xV_75, g2, bN_s, xg_75_5, g4.1.2.2.2.2.2.2.2, ycV C.pq, v1, bI_s, xg_75_5, v3.1.2.2.2.2.2.2.2, ycV C.pq, x1, bN_s] at pre
      refine Or.inr ⟨s4, pre, ?_, B4, w2.C.tr (g5.tr (v4.tr x2))⟩
      rw [j0r, g6]
end MJA45
