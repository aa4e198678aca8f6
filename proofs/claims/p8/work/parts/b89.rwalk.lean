/-! ===== WAYS, the reference ===== -/
/-- what is come to, in the reference's rows -/
def WRr (H : HEAP) (Q : WQ) (s : mjSt3) : Prop := s.1 97 124 = nI Q.length ∧ (∀ (k : Nat) (e : Nat × Nat × Nat × Nat), Q[k]? = some e → s.1 178 k = nI e.1 ∧ s.1 179 k = (if e.2.1 = 0 then -1 else nI e.2.2.1) ∧ s.1 180 k = nI e.2.2.2) ∧ ∀ o, o ≤ H.1 → s.1 177 o = b2 (inWb Q o)
/-- what it goes by -/
def HWr (T : TT) (L : List CD) (b : Nat) (H : HEAP) (s : mjSt3) : Prop := HPr T L b H s ∧ s.1 97 103 = nI H.1 ∧ (∀ c, c < L.length → s.1 104 (16 * b + c) = nI (nmL L c) ∧ s.1 109 (16 * b + c) = nI (fldT T L c)) ∧ ∀ c, c < L.length → ∀ i, i < fldT T L c → s.1 184 (400 * (16 * b + c) + i) = b2 (obT T L c i)
/-- what it goes by, apart from the rows: OBJECTS and CLASSES in their bounds -/
def HWp (T : TT) (L : List CD) (b : Nat) (H : HEAP) : Prop := HOK T L H ∧ HBs T L H ∧ b ≤ 1 ∧ L.length ≤ 16 ∧ (∀ c, c < L.length → 1 ≤ nmL L c ∧ nmL L c ≤ 5) ∧ ∀ c, fldT T L c ≤ 384
def oWr : mjSt3 → mjSt3 → Prop := offG (fun h j => (h = 97 ∧ j = 124) ∨ (177 ≤ h ∧ h ≤ 180)) (fun _ _ => False)
section MJB89
variable {T : TT} {d b o fo fi dd sh k i n m c : Nat} {L : List CD} {H : HEAP} {Q : WQ} {s s' : mjSt3} {e : Nat × Nat × Nat × Nat}
theorem HWr.wr (h : HWr T L b H s) (o : oWr s s') : HWr T L b H s' := by
  have r : ∀ h, ¬ (h = 97 ∨ (177 ≤ h ∧ h ≤ 180)) → s'.1 h = s.1 h := fun h e => funext fun j => o.1 h j (by omega)
  obtain ⟨h1, h2, h3, h4⟩ := h
  exact ⟨h1.keep (fun x hx => r x (by omega)), by rw [o.1 97 103 (by omega)]; exact h2, fun c hc => by rw [r 104 (by omega), r 109 (by omega)]; exact h3 c hc, fun c hc i hi => by rw [r 184 (by omega)]; exact h4 c hc i hi⟩
theorem oWr.w1 {v : Int32} : oWr s (uI s 97 (upd (s.1 97) 124 v)) := offG.w (Or.inl ⟨rfl, rfl⟩)
theorem oWr.w2 {h : Nat} {g : Nat → Int32} (hh : 177 ≤ h ∧ h ≤ 180) : oWr s (uI s h g) := offG_of (fun h' j e => by rw [uI_ne _ _ _ _ (fun q => e (by rw [q]; exact Or.inr hh))]) rfl
theorem nb1 : vp_nar .boolean 1 = 1 := by decide
theorem nb0 : vp_nar .boolean 0 = 0 := by decide
theorem inWb_app (Q : WQ) (o fo fi dd x : Nat) : inWb (Q ++ [(o, fo, fi, dd)]) x = (inWb Q x || decide (o = x)) := by
  unfold inWb
  rw [List.any_append]
  simp
/-- comeTo -/
theorem x_248 (W : WRr H Q s) (hQ : WOK H Q) (hb : H.1 ≤ 1334) (o1 : 1 ≤ o) (o2 : o ≤ H.1) {x : Int32} (hp : (fo = 0 ∧ dd = 0 ∧ x = -1) ∨ (1 ≤ fo ∧ x = nI fi ∧ ∃ p : Nat × Nat × Nat × Nat, Q[fi]? = some p ∧ p.1 = fo ∧ dd = p.2.2.2 + 1)) : ∃ s', mjF (d + 1) 248 [.ref 97, .int (nI o), .int x] (mjW0 s) = some (none, mjW0 s') ∧ oWr s s' ∧ WRr H (wCome Q o fo fi dd) s' ∧ WOK H (wCome Q o fo fi dd) := by
  have hok : WOK H (wCome Q o fo fi dd) := hQ.come o1 o2 (hp.imp (fun h => ⟨h.1, h.2.1⟩) (fun h => ⟨h.1, h.2.2⟩))
  have ln := hQ.len
  obtain ⟨w1, w2, w3⟩ := W
  have wo := w3 o o2
  have pre : mjF (d + 1) 248 [.ref 97, .int (nI o), .int x] (mjW0 s) = f_248 (mjF d) 97 (nI o) x (mjW0 s) := e_248
  unfold f_248 b_248_0 b_248_61 at pre
  rw [xg_97_120, wa_177 (by omega), wo] at pre
  cases hi : inWb Q o with
  | true =>
    rw [hi, if_neg (show ¬ b2 true = 0 by decide)] at pre
    have ew : wCome Q o fo fi dd = Q := if_pos hi
    rw [ew] at hok ⊢
    exact ⟨s, pre, offG.rf, ⟨w1, w2, w3⟩, hok⟩
  | false =>
    have ew : wCome Q o fo fi dd = Q ++ [(o, fo, fi, dd)] := if_neg (by rw [hi]; decide)
    rw [ew] at hok ⊢
    have ln2 := hok.len
    rw [List.length_append, List.length_singleton] at ln2
    obtain ⟨z1, g1⟩ : ∃ y, y = uI s 177 (upd (s.1 177) o 1) := ⟨_, rfl⟩
    obtain ⟨z2, g2⟩ : ∃ y, y = uI z1 178 (upd (z1.1 178) Q.length (nI o)) := ⟨_, rfl⟩
    obtain ⟨z3, g3⟩ : ∃ y, y = uI z2 179 (upd (z2.1 179) Q.length x) := ⟨_, rfl⟩
    obtain ⟨z4, g4⟩ : ∃ y, y = uI z3 180 (upd (z3.1 180) Q.length (nI dd)) := ⟨_, rfl⟩
    obtain ⟨z5, g5⟩ : ∃ y, y = uI z4 97 (upd (z4.1 97) 124 (nI (Q.length + 1))) := ⟨_, rfl⟩
    have c1 : z1.1 97 124 = nI Q.length := by rw [g1, uI_ne _ _ _ _ (by decide)]; exact w1
    have c2 : z2.1 97 124 = nI Q.length := by rw [g2, uI_ne _ _ _ _ (by decide)]; exact c1
    have c3 : z3.1 97 124 = nI Q.length := by rw [g3, uI_ne _ _ _ _ (by decide)]; exact c2
    have c4 : z4.1 97 124 = nI Q.length := by rw [g4, uI_ne _ _ _ _ (by decide)]; exact c3
    have v180 : z3.1 180 = s.1 180 := by rw [g3, uI_ne _ _ _ _ (by decide), g2, uI_ne _ _ _ _ (by decide), g1, uI_ne _ _ _ _ (by decide)]
    have o5 : oWr s z5 := offG.tr (b := z1) (by rw [g1]; exact oWr.w2 (by omega)) (offG.tr (b := z2) (by rw [g2]; exact oWr.w2 (by omega)) (offG.tr (b := z3) (by rw [g3]; exact oWr.w2 (by omega)) (offG.tr (b := z4) (by rw [g4]; exact oWr.w2 (by omega)) (by rw [g5]; exact oWr.w1))))
    have e177 : ∀ j, z5.1 177 j = if j = o then 1 else s.1 177 j := fun j => by rw [g5, uI_ne _ _ _ _ (by decide), g4, uI_ne _ _ _ _ (by decide), g3, uI_ne _ _ _ _ (by decide), g2, uI_ne _ _ _ _ (by decide), g1, uI_same, upd_g]
    have e178 : ∀ j, z5.1 178 j = if j = Q.length then nI o else s.1 178 j := fun j => by rw [g5, uI_ne _ _ _ _ (by decide), g4, uI_ne _ _ _ _ (by decide), g3, uI_ne _ _ _ _ (by decide), g2, uI_same, upd_g, g1, uI_ne _ _ _ _ (by decide)]
    have e179 : ∀ j, z5.1 179 j = if j = Q.length then x else s.1 179 j := fun j => by rw [g5, uI_ne _ _ _ _ (by decide), g4, uI_ne _ _ _ _ (by decide), g3, uI_same, upd_g, g2, uI_ne _ _ _ _ (by decide), g1, uI_ne _ _ _ _ (by decide)]
    have e180 : ∀ j, z5.1 180 j = if j = Q.length then nI dd else s.1 180 j := fun j => by rw [g5, uI_ne _ _ _ _ (by decide), g4, uI_same, upd_g, v180]
    refine ⟨z5, ?_, o5, ⟨?_, fun k e he => ?_, fun y hy => ?_⟩, hok⟩
    · rw [hi, if_pos (show b2 false = 0 from rfl), xg_97_120, ws_177 (by omega), nb1, ← g1, xg_97_121, xg_97_124, c1, ws_178 (by omega), ← g2, xg_97_122, xg_97_124, c2, ws_179 (by omega), ← g3, xg_97_123, xg_97_124, c3] at pre
      rw [pre]
      rcases hp with ⟨p1, p2, p3⟩ | ⟨p1, p3, p, p4, p5, p6⟩
      · rw [p2] at g4
        rw [p3, if_neg (show ¬ (0 : Int32) ≤ -1 by decide), ws_180 (by omega), show (0 : Int32) = nI 0 from rfl, ← g4, xg_97_124, c4, nI_1, xp_97_124, ← g5]
      · have pl := (List.getElem?_eq_some_iff.mp p4).1
        rw [p3, if_pos (nI_pos' (by omega)), xg_97_123, wa_180 (by omega), v180, (w2 fi p p4).2.2, nI_1, ← p6, ws_180 (by omega), ← g4, xg_97_124, c4, nI_1, xp_97_124, ← g5]
    · rw [g5, uI_same, upd_g, if_pos rfl, List.length_append, List.length_singleton]
    · by_cases kl : k < Q.length
      · rw [List.getElem?_append_left kl] at he
        obtain ⟨a1, a2, a3⟩ := w2 k e he
        exact ⟨by rw [e178, if_neg (by omega)]; exact a1, by rw [e179, if_neg (by omega)]; exact a2, by rw [e180, if_neg (by omega)]; exact a3⟩
      · rw [List.getElem?_append_right (by omega)] at he
        have kl2 := (List.getElem?_eq_some_iff.mp he).1
        rw [List.length_singleton] at kl2
        have ek : k = Q.length := by omega
        rw [show k - Q.length = 0 by omega] at he
        have e' : (o, fo, fi, dd) = e := by simpa using he
        rw [← e', e178, e179, e180, if_pos ek, if_pos ek, if_pos ek]
        refine ⟨rfl, ?_, rfl⟩
        rcases hp with ⟨p1, p2, p3⟩ | ⟨p1, p3, _⟩
        · rw [p3]; exact (if_pos p1).symm
        · rw [p3]; exact (if_neg (show ¬ fo = 0 by omega)).symm
    · rw [e177, inWb_app]
      by_cases q : y = o
      · rw [if_pos q, decide_eq_true q.symm, Bool.or_true]; rfl
      · rw [if_neg q, decide_eq_false (fun h => q h.symm), Bool.or_false]; exact w3 y hy
theorem L247_S (R : mjR) (n a : Nat) (x : Int32) (hp : mjH) : L_247_2 R (n + 1) a x hp = b_247_2 R (L_247_2 R n) a x hp := rfl
theorem lq_247 (R : mjR) (hb : H.1 ≤ 1334) : ∀ (r i n : Nat) (s : mjSt3), i + r = H.1 + 1 → r < n → s.1 97 103 = nI H.1 → (∀ o, o < i → s.1 177 o = 0) → ∃ s', L_247_2 R n 97 (nI i) (mjW0 s) = some (none, mjW0 s') ∧ oWr s s' ∧ WRr H [] s'
  | r, i, 0, s, e, hr, h, w => by omega
  | 0, i, n + 1, s, e, hr, h, w => by
    refine ⟨uI s 97 (upd (s.1 97) 124 0), ?_, oWr.w1, by rw [uI_same, upd_g, if_pos rfl]; rfl, fun k e he => (by cases he), fun o ho => ?_⟩
    · rw [L247_S]
      unfold b_247_2
      rw [xg_97_103, h, if_pos (nI_lt (by omega) (by omega)), xp_97_124]
    · rw [uI_ne _ _ _ _ (by decide), w o (by omega)]
      rfl
  | r + 1, i, n + 1, s, e, hr, h, w => by
    obtain ⟨z1, g1⟩ : ∃ y, y = uI s 177 (upd (s.1 177) i 0) := ⟨_, rfl⟩
    obtain ⟨s', a1, a2, a3⟩ := lq_247 R hb r (i + 1) n z1 (by omega) (by omega) (by rw [g1, uI_ne _ _ _ _ (by decide)]; exact h) (fun o ho => by
      rw [g1, uI_same, upd_g]
      by_cases q : o = i
      · rw [if_pos q]
      · rw [if_neg q]; exact w o (by omega))
    refine ⟨s', ?_, offG.tr (b := z1) (by rw [g1]; exact oWr.w2 (by omega)) a2, a3⟩
    rw [L247_S]
    unfold b_247_2
    rw [xg_97_103, h, if_neg (nI_nlt (by omega) (by omega)), xg_97_120, ws_177 (by omega), nb0, ← g1, nI_1]
    exact a1
/-- clear -/
theorem x_247 (hb : H.1 ≤ 1334) (h : s.1 97 103 = nI H.1) : ∃ s', mjF (d + 1) 247 [.ref 97] (mjW0 s) = some (none, mjW0 s') ∧ oWr s s' ∧ WRr H [] s' := by
  obtain ⟨s', a1, a2, a3⟩ := lq_247 (mjF d) hb (H.1 + 1) 0 mjN s (by omega) (by unfold mjN; omega) h (fun o ho => absurd ho (Nat.not_lt_zero o))
  refine ⟨s', ?_, a2, a3⟩
  rw [e_247]
  unfold f_247 b_247_0
  exact a1
theorem L249_S (R : mjR) (n a : Nat) (x y : Int32) (hp : mjH) : L_249_2 R (n + 1) a x y hp = b_249_2 R (L_249_2 R n) a x y hp := rfl
theorem L249b_S (R : mjR) (k2 : Nat → Int32 → Int32 → mjH → mjU) (n a : Nat) (x y u v w : Int32) (hp : mjH) : L_249_28 R k2 (n + 1) a x y u v w hp = b_249_28 R k2 (L_249_28 R k2 n) a x y u v w hp := rfl
/-- the FIELDS of an OBJECT -/
theorem lq_249b (k2 : Nat → Int32 → Int32 → mjH → mjU) (P : HWp T L b H) (hsh : sh ≤ H.1) : ∀ (r i m : Nat) (Q : WQ) (s : mjSt3), Q[k]? = some e → i + r = fldT T L (H.2 e.1).1 → r < m → HWr T L b H s → WRr H Q s → WOK H Q → ∃ s', L_249_28 (mjF (d + 1)) k2 m 97 (nI sh) (nI k) (nI e.1) (nI (16 * b + (H.2 e.1).1)) (nI i) (mjW0 s) = k2 97 (nI sh) (nI (k + 1)) (mjW0 s') ∧ oWr s s' ∧ WRr H (wSlots T L H sh e.1 k e.2.2.2 r i Q) s' ∧ WOK H (wSlots T L H sh e.1 k e.2.2.2 r i Q)
  | r, i, 0, Q, s, he, ei, hr, hW, W, hQ => by omega
  | 0, i, m + 1, Q, s, he, ei, hr, hW, W, hQ => by
    obtain ⟨hO, B, hb, l16, nm, f384⟩ := P
    obtain ⟨e1, e2⟩ := hQ.2.1 e (List.mem_of_getElem? he)
    have cl := (hO e.1 e1 e2).1
    have f3 := f384 (H.2 e.1).1
    refine ⟨s, ?_, offG.rf, W, hQ⟩
    rw [L249b_S]
    unfold b_249_28
    rw [xg_97_20, wa_109 (by omega), (hW.2.2.1 _ cl).2, if_pos (nI_le (by omega) (by omega)), nI_1]
  | r + 1, i, m + 1, Q, s, he, ei, hr, hW, W, hQ => by
    obtain ⟨hO, B, hb, l16, nm, f384⟩ := id P
    have b1 := B.1
    have b2' := B.2
    obtain ⟨e1, e2⟩ := hQ.2.1 e (List.mem_of_getElem? he)
    have cl := (hO e.1 e1 e2).1
    have f3 := f384 (H.2 e.1).1
    have ln := hQ.len
    obtain ⟨n1, n5⟩ := nm _ cl
    obtain ⟨hP, h103, h104, h184⟩ := id hW
    obtain ⟨p1, p2, p3, p4⟩ := hP e.1 e1 e2
    have fl := fr_lt T L H e1 e2
    have il : i < fldT T L (H.2 e.1).1 := by omega
    obtain ⟨hh1, hh2⟩ := hop_ok (T := T) (L := L) (H := H) (o := e.1) (i := i) hO (by omega) e1 e2
    have pre : L_249_28 (mjF (d + 1)) k2 (m + 1) 97 (nI sh) (nI k) (nI e.1) (nI (16 * b + (H.2 e.1).1)) (nI i) (mjW0 s) = b_249_83 (mjF (d + 1)) k2 (L_249_28 (mjF (d + 1)) k2 m) 97 (nI sh) (nI k) (nI e.1) (nI (16 * b + (H.2 e.1).1)) (nI i) (nI (hopN T L H e.1 i)) (mjW0 s) := by
      rw [L249b_S]
      unfold b_249_28
      rw [xg_97_20, wa_109 (by omega), (h104 _ cl).2, if_neg (nI_ge (by omega) (by omega)), xg_97_131, show (400 : Int32) * nI (16 * b + (H.2 e.1).1) + nI i = nI (400 * (16 * b + (H.2 e.1).1) + i) by rw [show (400 : Int32) = nI 400 from rfl, nI_mul, nI_add], wa_184 (by omega), h184 _ cl i il, b2_i]
      by_cases g : obT T L (H.2 e.1).1 i = true
      · rw [if_pos g, xg_97_108, xg_97_110, wa_170 (by omega), p2, xg_97_15, wa_104 (by omega), (h104 _ cl).1, nI_add, nI_add, wa_168 (by omega), p4 i il, hh2 g]
      · rw [if_neg g]
        have : hopN T L H e.1 i = 0 := if_neg g
        rw [this]
        rfl
    have st : wSlots T L H sh e.1 k e.2.2.2 (r + 1) i Q = wSlots T L H sh e.1 k e.2.2.2 r (i + 1) (wHop T L H sh e.1 k e.2.2.2 i Q) := rfl
    rw [pre, st]
    unfold b_249_83 b_249_103
    by_cases c0 : hopN T L H e.1 i = 0
    · have ew : wHop T L H sh e.1 k e.2.2.2 i Q = Q := if_pos (Or.inl c0)
      rw [ew, c0, if_pos (show nI 0 = 0 from rfl), nI_1]
      exact lq_249b k2 P hsh r (i + 1) m Q s he (by omega) (by omega) hW W hQ
    · rw [if_neg (nI_ne0 (by omega) (by omega))]
      by_cases c1 : hopN T L H e.1 i = sh
      · have ew : wHop T L H sh e.1 k e.2.2.2 i Q = Q := if_pos (Or.inr c1)
        rw [ew, if_pos (by rw [c1]), nI_1]
        exact lq_249b k2 P hsh r (i + 1) m Q s he (by omega) (by omega) hW W hQ
      · have ew : wHop T L H sh e.1 k e.2.2.2 i Q = wCome Q (hopN T L H e.1 i) e.1 k (e.2.2.2 + 1) := if_neg (fun x => x.elim c0 c1)
        rw [ew, if_neg (fun x => c1 ((nI_eq (by omega) (by omega)).mp x)), xV_97]
        obtain ⟨s1, a1, a2, a3, a4⟩ := x_248 (d := d) (fo := e.1) (fi := k) (dd := e.2.2.2 + 1) (x := nI k) W hQ (by omega) (show 1 ≤ hopN T L H e.1 i by omega) hh1 (Or.inr ⟨e1, rfl, e, he, rfl, rfl⟩)
        obtain ⟨R, eR⟩ := come_pre (Q := Q) (o := hopN T L H e.1 i) (fo := e.1) (fi := k) (d := e.2.2.2 + 1)
        obtain ⟨s2, d1, d2, d3, d4⟩ := lq_249b k2 P hsh r (i + 1) m _ s1 (by rw [eR]; exact pre_at he) (by omega) (by omega) (hW.wr a2) a3 a4
        refine ⟨s2, ?_, offG.tr a2 d2, d3, d4⟩
        rw [a1, bN_s, nI_1]
        exact d1
/-- from place k of the queue on -/
theorem lq_249 (P : HWp T L b H) (hsh : sh ≤ H.1) : ∀ (n k m : Nat) (Q : WQ) (s : mjSt3), n + k = H.1 + 1 → n < m → HWr T L b H s → WRr H Q s → WOK H Q → ∃ s', L_249_2 (mjF (d + 1)) m 97 (nI sh) (nI k) (mjW0 s) = some (none, mjW0 s') ∧ oWr s s' ∧ WRr H (wGo T L H sh n k Q) s' ∧ WOK H (wGo T L H sh n k Q)
  | n, k, 0, Q, s, en, hm, hW, W, hQ => by omega
  | 0, k, m + 1, Q, s, en, hm, hW, W, hQ => by
    have ln := hQ.len
    have b1 := P.2.1.1
    have b2' := P.2.1.2
    refine ⟨s, ?_, offG.rf, W, hQ⟩
    rw [L249_S]
    unfold b_249_2
    rw [xg_97_124, W.1, if_pos (nI_le (by omega) (by omega))]
  | n + 1, k, m + 1, Q, s, en, hm, hW, W, hQ => by
    have ln := hQ.len
    have b1 := P.2.1.1
    have b2' := P.2.1.2
    cases he : Q[k]? with
    | none =>
      have kl := List.getElem?_eq_none_iff.mp he
      have ew : wGo T L H sh (n + 1) k Q = Q := by
        show (match Q[k]? with
          | none => Q
          | some e => wGo T L H sh n (k + 1) (wSlots T L H sh e.1 k e.2.2.2 (fldT T L (H.2 e.1).1) 0 Q)) = Q
        rw [he]
      rw [ew]
      refine ⟨s, ?_, offG.rf, W, hQ⟩
      rw [L249_S]
      unfold b_249_2
      rw [xg_97_124, W.1, if_pos (nI_le (by omega) (by omega))]
    | some e =>
      have kl := (List.getElem?_eq_some_iff.mp he).1
      obtain ⟨e1, e2⟩ := hQ.2.1 e (List.mem_of_getElem? he)
      have ew : wGo T L H sh (n + 1) k Q = wGo T L H sh n (k + 1) (wSlots T L H sh e.1 k e.2.2.2 (fldT T L (H.2 e.1).1) 0 Q) := by
        show (match Q[k]? with
          | none => Q
          | some e => wGo T L H sh n (k + 1) (wSlots T L H sh e.1 k e.2.2.2 (fldT T L (H.2 e.1).1) 0 Q)) = _
        rw [he]
      rw [ew]
      have f3 := P.2.2.2.2.2 (H.2 e.1).1
      obtain ⟨s1, a1, a2, a3, a4⟩ := lq_249b (d := d) (L_249_2 (mjF (d + 1)) m) P hsh (fldT T L (H.2 e.1).1) 0 mjN Q s he (by omega) (by unfold mjN; omega) hW W hQ
      obtain ⟨s2, d1, d2, d3, d4⟩ := lq_249 P hsh n (k + 1) m _ s1 (by omega) (by omega) (hW.wr a2) a3 a4
      refine ⟨s2, ?_, offG.tr a2 d2, d3, d4⟩
      have p1 := (hW.1 e.1 e1 e2).1
      rw [L249_S]
      unfold b_249_2
      rw [xg_97_124, W.1, if_neg (nI_ge (by omega) (by omega)), xg_97_121, wa_178 (by omega), (W.2.1 k e he).1, xg_97_109, wa_169 (by omega), p1]
      exact a1.trans d1
end MJB89
