/-! ===== the Coder: '.' NAME ===== -/
section MJA30
variable {E : EV} {d N q c t n e k u v i m o w cs c0 kq nt : Nat} {s s' s0 : mjSt3} {j j0 : JS} {y : PZ} {p : Nat × Nat} {os : List Row} {rs : List Nat} {l : List Ins} {al isM : Bool}
theorem prt_v (C : CE E N q s0 j0 cs) (hv : vTn E.2.1 t) {K : Int64} (h : prtE E (t, al) K isM = some p) : ∃ k, t = k + 2 ∧ vK E.2.1 k ∧ memT E.1 E.2.1 (cK k) K isM = some p.1 ∧ p.2 = seenT E.1 E.2.1 k p.1 ∧ okM E p ∧ ∃ v, vwT (nmL E.2.1) (abT E.1 E.2.1) (cK k) (hmM E.2.1 p.1) = some v ∧ p.2 = stand (nmL E.2.1) v k := by
  have hn := C.1.hn
  rcases hv with e | e | ⟨k, e, vk⟩
  · subst e; cases h
  · subst e; cases h
  · subst e
    have kc := vk.cl hn
    unfold prtE at h
    dsimp only at h
    cases hm : memT E.1 E.2.1 (cK k) K isM with
    | none => rw [hm] at h; cases h
    | some m =>
      rw [hm] at h
      dsimp only at h
      by_cases g : (!al && hidM E.1 E.2.1 m) = true
      · rw [if_pos g] at h; cases h
      · rw [if_neg g] at h
        cases h
        obtain ⟨ml, _, v, hv⟩ := mem_v C.1 kc hm
        have es : seenT E.1 E.2.1 k m = stand (nmL E.2.1) v k := by unfold seenT; rw [hv]
        exact ⟨k, rfl, vk, hm, rfl, ⟨ml, by show vK E.2.1 (seenT E.1 E.2.1 k m); rw [es]; exact vK.stand hn (vw_v hn kc hv).1 vk⟩, v, hv, es⟩
theorem call_row (rs : List Nat) (hr : rs.drop ((psM E.2.1 p.1).length + 1) = jRS j0) (x a : Int32) (nm : Int64) : jrow E (13, x, a, 0, nm) (jA j0 p rs) = some (jE j0 (sty (nmL E.2.1) (tyM E.1 E.2.1 p.1) p.2) false, [(13, nI p.1, x)]) := by
  show some (((sty (nmL E.2.1) (tyM E.1 E.2.1 p.1) p.2, false) :: j0.1, j0.2.1, j0.2.2.1, j0.2.2.2.1, j0.2.2.2.2.1, j0.2.2.2.2.2.1, j0.2.2.2.2.2.2.1, sty (nmL E.2.1) (tyM E.1 E.2.1 p.1) p.2 :: rs.drop ((psM E.2.1 p.1).length + 1)), [(13, nI p.1, x)]) = _
  rw [hr]
  rfl
theorem ask_row (x a : Int32) (nm : Int64) (h : prtE E (t, al) nm true = some p) : jrow E (11, x, 0, a, nm) (jE j0 t al) = if nI (psM E.2.1 p.1).length = a then some (jA j0 p (t :: jRS j0), []) else none := by
  show (match prtE E (t, al) nm true with
    | none => none
    | some p => if nI (psM E.2.1 p.1).length = a then some (jA j0 p (t :: jRS j0), ([] : List Ins)) else none) = _
  rw [h]
/-- the end of a call -/
theorem fin141 (C : CE E N q s0 j0 cs) (hp : okM E p) (hnt : nt ≤ N) (A : atA E q s0 c0 cs j0 p os s c rs l) (hr : rs.drop ((psM E.2.1 p.1).length + 1) = jRS j0) (h41 : (E.1 c).1 = 41) (hcN : c ≤ N) (hb : cs + (c + 1 - c0) ≤ 3090) (a : Int32) : ∃ s', b_23_141 (mjF (d + 1)) 75 (nI p.1) (nI nt) (mjW0 s) = some (none, mjW0 s') ∧ atC E N q s0 c0 cs j0 (os ++ [(13, (E.1 nt).2.1, a, 0, (E.1 nt).2.2.1)]) s' (c + 1) (sty (nmL E.2.1) (tyM E.1 E.2.1 p.1) p.2) false (l ++ [(13, nI p.1, (E.1 nt).2.1)]) ∧ c + 1 ≤ N ∧ (l ++ [((13, nI p.1, (E.1 nt).2.1) : Ins)]).length + c0 + 3 ≤ c + 1 := by
  obtain ⟨A1, A2, A3, A4, A5, A6, A7⟩ := A
  have hq' : q = 2 ∨ q = 30 := C.pq
  have Cs : CE E N q s j0 (cs + l.length) := C.go A6 A3
  have hT := Cs.TH
  have cN := lt_z hT.2.2.1 hcN h41 (by decide)
  have xg : o58 s (tkGo s (c + 1)) := o58.go _ _
  have C1 : CE E N q (tkGo s (c + 1)) j0 (cs + l.length) := Cs.go xg.oe (by rw [xg.r (by omega)]; exact A3)
  have f1 := A2.go (c + 1)
  obtain ⟨s', b1, b2', b3, b4, b5, b6⟩ := put1 (d := d) C1 (by omega) 13 (nI p.1) (E.1 nt).2.1
  have tv : vT E.2.1 (tyM E.1 E.2.1 p.1) := ty_v C.1.hn (fun c hc => by cases hc; exact (C.1.2.1.2.2.2.2 p.1 hp.1).2.1)
  refine ⟨s', ?_, ⟨?_, Or.inr (tv.sty C.1.hn hp.2), ⟨by rw [b3]; exact f1.1, by rw [b3]; exact f1.2⟩, ?_, ?_, ?_, A6.tr (xg.oe.tr b2'), ?_⟩, by omega, ?_⟩
  · unfold b_23_141
    rw [xg_75_0, xV_58, j_skip hT A2 cN, bN_s, xg_75_5, C1.1.2.2.2.2.2.2.2, xg_75_0, xV_58, j_place C1.TH f1.1 (by omega) hnt, bI_s, ycV C.pq, b1, bI_s]
  · rw [jrun_app, A1]
    dsimp only
    rw [jrun_1, call_row rs hr]
  · rw [b4, List.length_append, List.length_singleton, Nat.add_assoc]
  · exact (A4.keep (CP.trn (CP.o58 C.pq xg) b6)).app b5
  · exact CP.trn A5 (CP.trn (CP.o58 C.pq xg) (b6.mono (by omega)))
  · rw [List.length_append, List.length_singleton]; omega
  · rw [List.length_append, List.length_singleton]; omega
/-- codeCall -/
theorem x_23 (ih : ¬ o = 12 → hE E N q (d + 5) 11 (prE E.1 (N + 1) w 0 (o + 1)) P3) (C : CE E N q s0 j0 cs) (A : atC E N q s0 c0 cs j0 os s (nt + 1) t al l) (hl : l.length + c0 + 2 ≤ nt + 1) (hp : prtE E (t, al) (E.1 nt).2.2.1 true = some p) (hcN : nt + 1 ≤ N) (h40 : (E.1 (nt + 1)).1 = 40) (hy : pCall E.1 (prE E.1 (N + 1) w 0 (o + 1)) o (nt + 1) kq = .inr y) (hK : KT E.2.2.2.1 kq y.2.2.1) (hA : AG s y.2.2.2.2) (hb : cs + (y.1 - c0) ≤ 3090) : (∃ s' l', mjF (d + 6) 23 [.ref 75, .int (nI p.1), .int (nI nt), .int (nI p.2)] (mjW0 s) = some (none, mjW0 s') ∧ atC E N q s0 c0 cs j0 (os ++ y.2.2.2.1) s' y.1 (sty (nmL E.2.1) (tyM E.1 E.2.1 p.1) p.2) false l' ∧ y.1 ≤ N ∧ l'.length + c0 + 3 ≤ y.1) ∨ (∃ s', mjF (d + 6) 23 [.ref 75, .int (nI p.1), .int (nI nt), .int (nI p.2)] (mjW0 s) = some (none, mjW0 s') ∧ bdC E N q s0 j0 (os ++ y.2.2.2.1) s') := by
  obtain ⟨A1, A2, A3, A4, A5, A6, A7, A8⟩ := A
  have hq' : q = 2 ∨ q = 30 := C.pq
  have Cs : CE E N q s j0 (cs + l.length) := C.go A7 A4
  have hT := Cs.TH
  have h0 := hT.2.2.1
  have hN := hT.2.1
  obtain ⟨kk, _, _, _, _, ok, _⟩ := prt_v C A2 hp
  have hm := ok.1
  have d3 := Cs.1.2.1.2.2.1
  have l6 : (psM E.2.1 p.1).length ≤ 6 := (Cs.1.2.2.2.1 p.1 hm).2.2.2.2.1
  have pN := lt_z h0 hcN h40 (by decide)
  have pre : mjF (d + 6) 23 [.ref 75, .int (nI p.1), .int (nI nt), .int (nI p.2)] (mjW0 s) = _ := e_23 (d := d + 5)
  unfold f_23 b_23_0 at pre
  unfold pCall at hy
  by_cases o12 : o = 12
  · rw [if_pos o12] at hy; cases hy
  rw [if_neg o12] at hy
  have tk : Tk s (nt + 1) (N + 1) := tk_f hT A3 hcN
  -- the number of ARGUMENTS
  have main : ∀ cnt : Nat, cnt ≤ 6 → s.1 63 (nt + 1) = nI cnt → (mjF (d + 6) 23 [.ref 75, .int (nI p.1), .int (nI nt), .int (nI p.2)] (mjW0 s) = if cnt = (psM E.2.1 p.1).length then L_23_43 (mjF (d + 5)) mjN 75 (nI p.1) (nI nt) (nI p.2) 0 (mjW0 (tkGo s (nt + 1 + 1))) else bN (mjF (d + 5) 178 [.ref 58, .int 6, .int (nI nt)] (mjW0 s)) (fun hp => some (none, hp))) := by
    intro cnt hc6 h63
    rw [xg_75_0, xV_58, nI_1, x_argsAt tk (by omega), bI_s, h63, xg_75_4, Cs.1.2.2.2.2.2.2.1, ymg_6 C.pq, wya_20 C.pq (by omega), (Cs.1.2.1.2.2.2.2 p.1 hm).2.2.2.2.2.2, show (mdM E.2.1 p.1).2.2.2.1.length = (psM E.2.1 p.1).length from rfl] at pre
    by_cases g : cnt = (psM E.2.1 p.1).length
    · rw [if_pos (show nI cnt = nI (psM E.2.1 p.1).length by rw [g]), xg_75_0, xV_58, j_skip hT A3 pN, bN_s] at pre
      rw [if_pos g]; exact pre
    · rw [if_neg (show ¬ nI cnt = nI (psM E.2.1 p.1).length from fun x => g ((nI_eq (by omega) (by omega)).mp x)), xg_75_0, xV_58] at pre
      rw [if_neg g]; exact pre
  have refuse : ∀ (cnt : Nat) (r : List Row), nt + 1 < y.1 → cnt ≤ 6 → s.1 63 (nt + 1) = nI cnt → ¬ cnt = (psM E.2.1 p.1).length → y.2.2.2.1 = oAsk E.1 (nt + 1) cnt :: r → (∃ s', mjF (d + 6) 23 [.ref 75, .int (nI p.1), .int (nI nt), .int (nI p.2)] (mjW0 s) = some (none, mjW0 s') ∧ bdC E N q s0 j0 (os ++ y.2.2.2.1) s') := by
    intro cnt r hy1 hc6 h63 g er
    obtain ⟨y', y1, y2, y3⟩ := j_at (d := d + 4) (k := 6) (t := nt) hT A3 hcN (by omega) (by decide)
    have pr := main cnt hc6 h63
    rw [if_neg g, y1, bN_s] at pr
    refine ⟨y', pr, ?_, Cs.bad (by omega) y3 y2, A7.C.tr y3.C⟩
    rw [er, jrun_app, A1]
    dsimp only
    show (match (match jrow E (11, (E.1 (nt + 1 - 1)).2.1, 0, nI cnt, (E.1 (nt + 1 - 1)).2.2.1) (jE j0 t al) with
      | none => none
      | some (j1, c1) => match jrun E r j1 with
        | none => none
        | some (j2, c2) => some (j2, c1 ++ c2)) with
      | none => none
      | some (j2, c2) => some (j2, l ++ c2)) = none
    rw [show nt + 1 - 1 = nt by omega, ask_row _ _ _ hp, if_neg (fun x => g ((nI_eq (by omega) (by omega)).mp x).symm)]
  have askd : ∀ cnt : Nat, cnt = (psM E.2.1 p.1).length → jrun E (os ++ [oAsk E.1 (nt + 1) cnt]) j0 = some (jA j0 p (t :: jRS j0), l) := by
    intro cnt g
    rw [jrun_app, A1]
    dsimp only
    rw [jrun_1]
    show (match jrow E (11, (E.1 (nt + 1 - 1)).2.1, 0, nI cnt, (E.1 (nt + 1 - 1)).2.2.1) (jE j0 t al) with
      | none => none
      | some (j2, c2) => some (j2, l ++ c2)) = _
    rw [show nt + 1 - 1 = nt by omega, ask_row _ _ _ hp, if_pos (by rw [g])]
    dsimp only
    rw [List.append_nil]
  have xg : o58 s (tkGo s (nt + 1 + 1)) := o58.go _ _
  have C1 : CE E N q (tkGo s (nt + 1 + 1)) j0 (cs + l.length) := Cs.go xg.oe (by rw [xg.r (by omega)]; exact A4)
  by_cases e41 : (E.1 (nt + 1 + 1)).1 = 41
  · rw [if_pos e41] at hy
    cases hy
    have h63 : s.1 63 (nt + 1) = nI 0 := hA (nt + 1, 0) (List.mem_singleton.mpr rfl)
    by_cases g : 0 = (psM E.2.1 p.1).length
    · have pr := main 0 (by omega) h63
      rw [if_pos g] at pr
      have B := fin141 (d := d + 4) (s := tkGo s (nt + 1 + 1)) (c := nt + 1 + 1) (nt := nt) (rs := t :: jRS j0) (os := os ++ [oAsk E.1 (nt + 1) 0]) (l := l) (c0 := c0) C ok (by omega) ⟨askd 0 g, A3.go _, by rw [xg.r (by omega)]; exact A4, A5.keep (CP.o58 C.pq xg), CP.trn A6 (CP.o58 C.pq xg), A7.tr xg.oe, by omega⟩ (by rw [← g]; rfl) e41 (by omega) (by dsimp only at hb; omega) (nI 0)
      obtain ⟨s', w1, w2, w3, w4⟩ := B
      refine Or.inl ⟨s', _, ?_, ?_, w3, w4⟩
      · rw [pr, show mjN = 99999999 + 1 from rfl, L23_S]
        unfold b_23_43
        rw [xg_75_4, C1.1.2.2.2.2.2.2.1, ymg_6 C.pq, wya_20 C.pq (by omega), (C1.1.2.1.2.2.2.2 p.1 hm).2.2.2.2.2.2, show (mdM E.2.1 p.1).2.2.2.1.length = (psM E.2.1 p.1).length from rfl, ← g, if_pos (show nI 0 ≤ (0 : Int32) by decide)]
        exact w1
      · rw [List.append_assoc] at w2
        show atC E N q s0 c0 cs j0 (os ++ [oAsk E.1 (nt + 1) 0, oCall E.1 (nt + 1) 0]) s' (nt + 1 + 1 + 1) _ false _
        have ec : oCall E.1 (nt + 1) 0 = (13, (E.1 nt).2.1, nI 0, 0, (E.1 nt).2.2.1) := by unfold oCall; rw [show nt + 1 - 1 = nt by omega]
        rw [ec]
        exact w2
    · exact Or.inr (refuse 0 _ (by show nt + 1 < nt + 1 + 2; omega) (by omega) h63 g rfl)
  · rw [if_neg e41] at hy
    cases hpa : pArgs E.1 (prE E.1 (N + 1) w 0 (o + 1)) kq 7 0 (nt + 1 + 1, 0, [], [], []) with
    | inl x => rw [hpa] at hy; cases hy
    | inr x =>
      rw [hpa] at hy
      cases hy
      have hv : ∀ c kq x, prE E.1 (N + 1) w 0 (o + 1) c kq = .inr x → c < x.1 := fun c kq x hx => (prE_len (T := E.1) (M := N + 1) w 0 (o + 1) c kq x (by omega) hx).1
      have cn := pArgs_cnt hv 7 0 _ x (by omega) hpa
      dsimp only at cn hb hK hA
      have h63 : s.1 63 (nt + 1) = nI x.1 := hA (nt + 1, x.1) (List.mem_append_right _ (List.mem_singleton.mpr rfl))
      by_cases g : x.1 = (psM E.2.1 p.1).length
      · have pr := main x.1 cn.2.1 h63
        rw [if_pos g] at pr
        have R := argC (d := d) (c0 := c0) (os := os ++ [oAsk E.1 (nt + 1) x.1]) (p := p) (nt := nt) (ih o12) C ok (by omega) 7 0 mjN (nt + 1 + 1, 0, [], [], []) x (tkGo s (nt + 1 + 1)) (t :: jRS j0) l hpa g (by have := mjN_v; omega) (by omega) ⟨by rw [show (os ++ [oAsk E.1 (nt + 1) x.1]) ++ ([] : List Row) = os ++ [oAsk E.1 (nt + 1) x.1] from List.append_nil _]; exact askd x.1 g, A3.go _, by rw [xg.r (by omega)]; exact A4, A5.keep (CP.o58 C.pq xg), CP.trn A6 (CP.o58 C.pq xg), A7.tr xg.oe, by show l.length + c0 + 3 ≤ nt + 1 + 1; omega⟩ rfl (by show 1 ≤ nt + 1 + 1; omega) (by show nt + 1 + 1 ≤ N; omega) hK ((hA.oE C.pq xg.oe).app.1) (by omega)
        have eo : os ++ (oAsk E.1 (nt + 1) x.1 :: (x.2.2.2.2.1 ++ [oCall E.1 (nt + 1) x.1])) = (os ++ [oAsk E.1 (nt + 1) x.1] ++ x.2.2.2.2.1) ++ [oCall E.1 (nt + 1) x.1] := by simp only [List.append_assoc, List.cons_append, List.nil_append]
        rcases R with ⟨s2, rs2, l2, r1, r2, r3, r4, r5⟩ | ⟨s2, r1, r2⟩
        · have B := fin141 (d := d + 4) (nt := nt) C ok (by omega) r2 (by rw [← g]; exact r3) r5 (by omega) (by omega) (nI x.1)
          obtain ⟨s', w1, w2, w3, w4⟩ := B
          rw [show x.2.1 - 1 + 1 = x.2.1 by omega] at w2 w3 w4
          refine Or.inl ⟨s', _, ?_, ?_, w3, w4⟩
          · rw [pr, show (0 : Int32) = nI 0 from rfl, r1]; exact w1
          · show atC E N q s0 c0 cs j0 (os ++ (oAsk E.1 (nt + 1) x.1 :: (x.2.2.2.2.1 ++ [oCall E.1 (nt + 1) x.1]))) s' x.2.1 _ false _
            rw [eo]
            have ec : oCall E.1 (nt + 1) x.1 = (13, (E.1 nt).2.1, nI x.1, 0, (E.1 nt).2.2.1) := by unfold oCall; rw [show nt + 1 - 1 = nt by omega]
            rw [ec]
            exact w2
        · refine Or.inr ⟨s2, ?_, ?_, r2.2.1, r2.2.2⟩
          · rw [pr, show (0 : Int32) = nI 0 from rfl, r1]
          · show jrun E (os ++ (oAsk E.1 (nt + 1) x.1 :: (x.2.2.2.2.1 ++ [oCall E.1 (nt + 1) x.1]))) j0 = none
            rw [eo]
            exact jrun_no r2.1
      · exact Or.inr (refuse x.1 _ (by show nt + 1 < x.2.1; omega) cn.2.1 h63 g rfl)
end MJA30
