section
/-! ===== WAYS, the class ===== -/
def WCr (H : HEAP) (Q : WQ) (s : mjSt3) : Prop := s.1 91 3 = nI Q.length ∧ (∀ (k : Nat) (e : Nat × Nat × Nat × Nat), Q[k]? = some e → s.1 92 k = nI e.1) ∧ (∀ e, e ∈ Q → s.1 93 e.1 = nI e.2.1) ∧ ∀ o, o ≤ H.1 → ¬ inW Q o → s.1 93 o = -1
def HWc (T : TT) (L : List CD) (q : Nat) (H : HEAP) (s : mjSt3) : Prop := HPc T L H s ∧ s.1 79 2 = nI H.1 ∧ s.2.2 91 1 = q ∧ (1 ≤ H.1 → isP q ∧ (∀ c, c < L.length → s.1 (q + 8) c = nI (fldT T L c)) ∧ OBr q s L.length (obT T L))
def oWs : mjSt3 → mjSt3 → Prop := offG (fun h j => (h = 91 ∧ j = 3) ∨ h = 92 ∨ h = 93) (fun _ _ => False)
def oWc : mjSt3 → mjSt3 → Prop := offG (fun h _ => 91 ≤ h ∧ h ≤ 96) (fun _ _ => False)
section MJB94
variable {T : TT} {d b q o fo fi dd sh k i n m c : Nat} {L : List CD} {H : HEAP} {Q : WQ} {s s' : mjSt3} {e : Nat × Nat × Nat × Nat}
theorem sh_sm : ∀ k, k < 64 → ((((nI k).toInt64 &&& 63).toBitVec.smod 64)).toNat = k := by decide +kernel
theorem bit_at (x : Int64) {k : Nat} (hk : k < 64) : ((x >>> ((nI k).toInt64 &&& 63)) &&& (1 : Int64)) = 0 ↔ lb x k = false := by
  have e1 : ((x >>> ((nI k).toInt64 &&& 63)) &&& (1 : Int64)).toBitVec = (x.toBitVec.sshiftRight k) &&& 1#64 := by
    rw [Int64.toBitVec_and, Int64.toBitVec_shiftRight]
    show (x.toBitVec.sshiftRight ((((nI k).toInt64 &&& 63).toBitVec.smod 64)).toNat) &&& 1#64 = _
    rw [sh_sm k hk]
  rw [← Int64.toBitVec_inj, e1, BitVec.and_one_eq_setWidth_ofBool_getLsbD, BitVec.getLsbD_sshiftRight]
  have e2 : (!decide (64 ≤ 0) && if k + 0 < 64 then x.toBitVec.getLsbD (k + 0) else x.toBitVec.msb) = lb x k := by
    rw [if_pos (show k + 0 < 64 from hk)]
    exact Bool.true_and _
  rw [e2]
  cases lb x k <;> decide
theorem HWc.ws (h : HWc T L q H s) (o : oWc s s') : HWc T L q H s' := by
  obtain ⟨h1, h2, h3, h4⟩ := h
  have r : ∀ h, ¬ (91 ≤ h ∧ h ≤ 96) → s'.1 h = s.1 h := fun h e => funext fun j => o.1 h j e
  have l : s'.2.1 = s.2.1 := funext fun h => funext fun j => o.2.1 h j (fun x => x)
  refine ⟨h1.keep (fun x hx => r x (by omega)), by rw [r 79 (by omega)]; exact h2, by rw [o.2.2]; exact h3, fun h => ?_⟩
  obtain ⟨g1, g2, g3⟩ := h4 h
  have hq : q = 2 ∨ q = 30 := g1
  exact ⟨g1, fun c hc => by rw [r (q + 8) (by omega)]; exact g2 c hc, fun c hc i hi => by rw [l]; exact g3 c hc i hi⟩
theorem oWs.toC (o : oWs s s') : oWc s s' := offG.mono o (fun h j w => by omega) (fun _ _ x => x)
theorem oWs.w1 {v : Int32} : oWs s (uI s 91 (upd (s.1 91) 3 v)) := offG.w (Or.inl ⟨rfl, rfl⟩)
theorem oWs.w2 {h : Nat} {g : Nat → Int32} (hh : h = 92 ∨ h = 93) : oWs s (uI s h g) := offG_of (fun h' j e => by rw [uI_ne _ _ _ _ (fun q => e (by rw [q]; exact Or.inr hh))]) rfl
/-- holdsObject -/
theorem x_124 (hq : isP q) (hc : c < 16) (hi : i < 384) : mjF (d + 1) 124 [.ref q, .int (nI c), .int (nI i)] (mjW0 s) = some (some (.int (b2 (lb (s.2.1 (q + 13) (6 * c + i / 64)) (i % 64)))), mjW0 s) := by
  have m := Nat.div_add_mod i 64
  have ml : i % 64 < 64 := Nat.mod_lt _ (by decide)
  rw [e_124]
  unfold f_124 b_124_0
  rw [yg_13 hq, show nI i / (64 : Int32) = nI (i / 64) from pk_div (d := 64) (by omega) (by decide) (by decide), show nI c * (6 : Int32) + nI (i / 64) = nI (6 * c + i / 64) by rw [show (6 : Int32) = nI 6 from rfl, nI_mul, nI_add, Nat.mul_comm], wya_13 hq (by omega), show nI i - nI (i / 64) * (64 : Int32) = nI (i % 64) by rw [show (64 : Int32) = nI 64 from rfl, nI_mul, pk_sub (by omega)]; exact congrArg nI (by omega)]
  cases hl : lb (s.2.1 (q + 13) (6 * c + i / 64)) (i % 64) with
  | false => rw [if_pos ((lg_cmp_eq _ _).mpr ((bit_at _ ml).mpr hl))]; rfl
  | true => rw [if_neg (fun x => by have := (bit_at _ ml).mp ((lg_cmp_eq _ _).mp x); rw [hl] at this; cases this)]; rfl
/-- fieldsOf, hop -/
theorem x_189 (P : HWp T L b H) (hW : HWc T L q H s) (o1 : 1 ≤ o) (o2 : o ≤ H.1) : mjF (d + 2) 189 [.ref 91, .int (nI o)] (mjW0 s) = some (some (.int (nI (fldT T L (H.2 o).1))), mjW0 s) := by
  obtain ⟨g1, g2, g3⟩ := hW.2.2.2 (by omega)
  have cl := (P.1 o o1 o2).1
  have l16 := P.2.2.2.1
  rw [e_189]
  unfold f_189 b_189_0
  rw [xg_91_1, hW.2.2.1, yg_8 g1, xg_91_0, xV_79, x_46 hW.1 P.2.1 o1 o2, bI_s, wya_8 g1 (by omega), g2 _ cl]
theorem x_190 (P : HWp T L b H) (hW : HWc T L q H s) (o1 : 1 ≤ o) (o2 : o ≤ H.1) (hi : i < fldT T L (H.2 o).1) : mjF (d + 2) 190 [.ref 91, .int (nI o), .int (nI i)] (mjW0 s) = some (some (.int (nI (hopN T L H o i))), mjW0 s) := by
  obtain ⟨g1, g2, g3⟩ := hW.2.2.2 (by omega)
  have cl := (P.1 o o1 o2).1
  have l16 := P.2.2.2.1
  have f3 := P.2.2.2.2.2 (H.2 o).1
  have b1 := P.2.1.1
  have b2' := P.2.1.2
  obtain ⟨h1, h2⟩ := hop_ok (T := T) (L := L) (H := H) (o := o) (i := i) P.1 (by omega) o1 o2
  rw [e_190]
  unfold f_190 b_190_0
  rw [xg_91_1, hW.2.2.1, xg_91_0, xV_79, x_46 hW.1 P.2.1 o1 o2, bI_s, yV g1, x_124 g1 (by omega) (by omega), bI_s, g3 _ cl i (by omega), b2_i]
  by_cases g : obT T L (H.2 o).1 i = true
  · rw [if_pos g, xg_91_0, xV_79, x_45 hW.1 P.2.1 o1 o2 hi, bI_s, h2 g]
  · rw [if_neg g]
    have : hopN T L H o i = 0 := if_neg g
    rw [this]
    rfl
/-- comeTo -/
theorem x_187 (W : WCr H Q s) (hQ : WOK H Q) (hb : H.1 ≤ 1334) (o1 : 1 ≤ o) (o2 : o ≤ H.1) (hp : (fo = 0 ∧ dd = 0) ∨ (1 ≤ fo ∧ fo ≤ H.1 ∧ ∃ p : Nat × Nat × Nat × Nat, Q[fi]? = some p ∧ p.1 = fo ∧ dd = p.2.2.2 + 1)) : ∃ s', mjF (d + 1) 187 [.ref 91, .int (nI o), .int (nI fo)] (mjW0 s) = some (none, mjW0 s') ∧ oWs s s' ∧ WCr H (wCome Q o fo fi dd) s' ∧ WOK H (wCome Q o fo fi dd) := by
  have hok : WOK H (wCome Q o fo fi dd) := hQ.come o1 o2 (hp.imp (fun h => h) (fun h => ⟨h.1, h.2.2⟩))
  have ln := hQ.len
  obtain ⟨w1, w2, w3, w4⟩ := W
  have pre : mjF (d + 1) 187 [.ref 91, .int (nI o), .int (nI fo)] (mjW0 s) = f_187 (mjF d) 91 (nI o) (nI fo) (mjW0 s) := e_187
  unfold f_187 b_187_0 at pre
  rw [xg_91_4, wa_93 (by omega)] at pre
  cases hi : inWb Q o with
  | true =>
    obtain ⟨x, x1, x2⟩ := inWb_iff.mp hi
    have v := w3 x x1
    rw [x2] at v
    have x3 : x.2.1 < 2 ^ 31 := by
      obtain ⟨k, hk⟩ := List.getElem?_of_mem x1
      rcases hQ.2.2 k x hk with h | ⟨_, _, p, p1, p2, _⟩
      · omega
      · have := hQ.2.1 p (List.mem_of_getElem? p1)
        omega
    rw [v, if_neg (nI_m1 x3)] at pre
    have ew : wCome Q o fo fi dd = Q := if_pos hi
    rw [ew] at hok ⊢
    exact ⟨s, pre, offG.rf, ⟨w1, w2, w3, w4⟩, hok⟩
  | false =>
    have nin : ¬ inW Q o := fun h => by rw [inWb_iff.mpr h] at hi; cases hi
    have ew : wCome Q o fo fi dd = Q ++ [(o, fo, fi, dd)] := if_neg (by rw [hi]; decide)
    rw [ew] at hok ⊢
    have ln2 := hok.len
    rw [List.length_append, List.length_singleton] at ln2
    obtain ⟨z1, g1⟩ : ∃ y, y = uI s 93 (upd (s.1 93) o (nI fo)) := ⟨_, rfl⟩
    obtain ⟨z2, g2⟩ : ∃ y, y = uI z1 92 (upd (z1.1 92) Q.length (nI o)) := ⟨_, rfl⟩
    obtain ⟨z3, g3⟩ : ∃ y, y = uI z2 91 (upd (z2.1 91) 3 (nI (Q.length + 1))) := ⟨_, rfl⟩
    have c1 : z1.1 91 3 = nI Q.length := by rw [g1, uI_ne _ _ _ _ (by decide)]; exact w1
    have c2 : z2.1 91 3 = nI Q.length := by rw [g2, uI_ne _ _ _ _ (by decide)]; exact c1
    have e93 : ∀ j, z3.1 93 j = if j = o then nI fo else s.1 93 j := fun j => by rw [g3, uI_ne _ _ _ _ (by decide), g2, uI_ne _ _ _ _ (by decide), g1, uI_same, upd_g]
    have e92 : ∀ j, z3.1 92 j = if j = Q.length then nI o else s.1 92 j := fun j => by rw [g3, uI_ne _ _ _ _ (by decide), g2, uI_same, upd_g, g1, uI_ne _ _ _ _ (by decide)]
    refine ⟨z3, ?_, offG.tr (b := z1) (by rw [g1]; exact oWs.w2 (by omega)) (offG.tr (b := z2) (by rw [g2]; exact oWs.w2 (by omega)) (by rw [g3]; exact oWs.w1)), ⟨?_, fun k e he => ?_, fun e he => ?_, fun y hy hn => ?_⟩, hok⟩
    · rw [w4 o o2 nin, if_pos rfl, xg_91_3, w1, xg_91_2, xN_92, if_neg (show ¬ Int32.ofNat 1335 ≤ nI Q.length from nI_ge (b := 1335) (by omega) (by decide)), xg_91_4, ws_93 (by omega), ← g1, xg_91_2, xg_91_3, c1, ws_92 (by omega), ← g2, xg_91_3, c2, nI_1, xp_91_3, ← g3] at pre
      exact pre
    · rw [g3, uI_same, upd_g, if_pos rfl, List.length_append, List.length_singleton]
    · by_cases kl : k < Q.length
      · rw [List.getElem?_append_left kl] at he
        rw [e92, if_neg (by omega)]
        exact w2 k e he
      · rw [List.getElem?_append_right (by omega)] at he
        have kl2 := (List.getElem?_eq_some_iff.mp he).1
        rw [List.length_singleton] at kl2
        rw [show k - Q.length = 0 by omega] at he
        have e' : (o, fo, fi, dd) = e := by simpa using he
        rw [← e', e92, if_pos (by omega)]
    · rcases List.mem_append.mp he with he | he
      · rw [e93, if_neg (fun x => nin ⟨e, he, x⟩)]
        exact w3 e he
      · have e' : e = (o, fo, fi, dd) := by simpa using he
        rw [e', e93, if_pos rfl]
    · have ne : ¬ y = o := fun x => hn ⟨(o, fo, fi, dd), List.mem_append_right _ (List.mem_singleton.mpr rfl), x.symm⟩
      rw [e93, if_neg ne]
      exact w4 y hy (fun ⟨x, x1, x2⟩ => hn ⟨x, List.mem_append_left _ x1, x2⟩)
theorem L188c_S (R : mjR) (n a : Nat) (x y u v : Int32) (hp : mjH) : L_188_9 R (n + 1) a x y u v hp = b_188_9 R (L_188_9 R n) a x y u v hp := rfl
theorem lq_188c (P : HWp T L b H) (hsh : sh ≤ H.1) : ∀ (r i m : Nat) (Q : WQ) (s : mjSt3), Q[k]? = some e → i + r = fldT T L (H.2 e.1).1 → r < m → HWc T L q H s → WCr H Q s → WOK H Q → ∃ s', L_188_9 (mjF (d + 2)) m 91 (nI e.1) (nI sh) (nI (fldT T L (H.2 e.1).1)) (nI i) (mjW0 s) = some (none, mjW0 s') ∧ oWs s s' ∧ WCr H (wSlots T L H sh e.1 k e.2.2.2 r i Q) s' ∧ WOK H (wSlots T L H sh e.1 k e.2.2.2 r i Q)
  | r, i, 0, Q, s, he, ei, hr, hW, W, hQ => by omega
  | 0, i, m + 1, Q, s, he, ei, hr, hW, W, hQ => by
    have f3 := P.2.2.2.2.2 (H.2 e.1).1
    refine ⟨s, ?_, offG.rf, W, hQ⟩
    rw [L188c_S]
    unfold b_188_9
    rw [if_pos (nI_le (by omega) (by omega))]
  | r + 1, i, m + 1, Q, s, he, ei, hr, hW, W, hQ => by
    have b1 := P.2.1.1
    have b2' := P.2.1.2
    obtain ⟨e1, e2⟩ := hQ.2.1 e (List.mem_of_getElem? he)
    have f3 := P.2.2.2.2.2 (H.2 e.1).1
    have il : i < fldT T L (H.2 e.1).1 := by omega
    obtain ⟨hh1, hh2⟩ := hop_ok (T := T) (L := L) (H := H) (o := e.1) (i := i) P.1 (by omega) e1 e2
    have st : wSlots T L H sh e.1 k e.2.2.2 (r + 1) i Q = wSlots T L H sh e.1 k e.2.2.2 r (i + 1) (wHop T L H sh e.1 k e.2.2.2 i Q) := rfl
    rw [L188c_S, st]
    unfold b_188_9 b_188_42
    rw [if_neg (nI_ge (by omega) (by omega)), xV_91, x_190 (d := d) P hW e1 e2 il, bI_s]
    by_cases c0 : hopN T L H e.1 i = 0
    · have ew : wHop T L H sh e.1 k e.2.2.2 i Q = Q := if_pos (Or.inl c0)
      rw [ew, c0, if_pos (show nI 0 = 0 from rfl), nI_1]
      exact lq_188c P hsh r (i + 1) m Q s he (by omega) (by omega) hW W hQ
    · rw [if_neg (nI_ne0 (by omega) (by omega))]
      by_cases c1 : hopN T L H e.1 i = sh
      · have ew : wHop T L H sh e.1 k e.2.2.2 i Q = Q := if_pos (Or.inr c1)
        rw [ew, if_pos (by rw [c1]), nI_1]
        exact lq_188c P hsh r (i + 1) m Q s he (by omega) (by omega) hW W hQ
      · have ew : wHop T L H sh e.1 k e.2.2.2 i Q = wCome Q (hopN T L H e.1 i) e.1 k (e.2.2.2 + 1) := if_neg (fun x => x.elim c0 c1)
        rw [ew, if_neg (fun x => c1 ((nI_eq (by omega) (by omega)).mp x)), xV_91]
        obtain ⟨s1, a1, a2, a3, a4⟩ := x_187 (d := d + 1) (fo := e.1) (fi := k) (dd := e.2.2.2 + 1) W hQ (by omega) (show 1 ≤ hopN T L H e.1 i by omega) hh1 (Or.inr ⟨e1, e2, e, he, rfl, rfl⟩)
        obtain ⟨R, eR⟩ := come_pre (Q := Q) (o := hopN T L H e.1 i) (fo := e.1) (fi := k) (d := e.2.2.2 + 1)
        obtain ⟨s2, d1, d2, d3, d4⟩ := lq_188c P hsh r (i + 1) m _ s1 (by rw [eR]; exact pre_at he) (by omega) (by omega) (hW.ws a2.toC) a3 a4
        refine ⟨s2, ?_, offG.tr a2 d2, d3, d4⟩
        rw [a1, bN_s, nI_1]
        exact d1
theorem L186q_S (R : mjR) (n a : Nat) (x y : Int32) (hp : mjH) : L_186_81 R (n + 1) a x y hp = b_186_81 R (L_186_81 R n) a x y hp := rfl
theorem lq_186q (P : HWp T L b H) (hsh : sh ≤ H.1) : ∀ (n k m : Nat) (Q : WQ) (s : mjSt3), n + k = H.1 + 1 → n < m → HWc T L q H s → WCr H Q s → WOK H Q → ∃ s', L_186_81 (mjF (d + 3)) m 91 (nI sh) (nI k) (mjW0 s) = some (none, mjW0 s') ∧ oWs s s' ∧ WCr H (wGo T L H sh n k Q) s' ∧ WOK H (wGo T L H sh n k Q)
  | n, k, 0, Q, s, en, hm, hW, W, hQ => by omega
  | 0, k, m + 1, Q, s, en, hm, hW, W, hQ => by
    have b1 := P.2.1.1
    have b2' := P.2.1.2
    refine ⟨s, ?_, offG.rf, W, hQ⟩
    rw [L186q_S]
    unfold b_186_81
    rw [xg_91_0, xg_79_2, hW.2.1, if_pos (nI_le (by omega) (by omega))]
  | n + 1, k, m + 1, Q, s, en, hm, hW, W, hQ => by
    have ln := hQ.len
    have b1 := P.2.1.1
    have b2' := P.2.1.2
    cases he : Q[k]? with
    | none =>
      have kl := List.getElem?_eq_none_iff.mp he
      have ew : wGo T L H sh (n + 1) k Q = Q := by
        show (match Q[k]? with
          | none => Q
          | some e => wGo T L H sh n (k + 1) (wSlots T L H sh e.1 k e.2.2.2 (fldT T L (H.2 e.1).1) 0 Q)) = Q
        rw [he]
      rw [ew]
      refine ⟨s, ?_, offG.rf, W, hQ⟩
      rw [L186q_S]
      unfold b_186_81
      rw [xg_91_0, xg_79_2, hW.2.1]
      by_cases g : H.1 ≤ k
      · rw [if_pos (nI_le g (by omega))]
      · rw [if_neg (nI_ge (by omega) (by omega)), xg_91_3, W.1, if_pos (nI_le (by omega) (by omega))]
    | some e =>
      have kl := (List.getElem?_eq_some_iff.mp he).1
      obtain ⟨e1, e2⟩ := hQ.2.1 e (List.mem_of_getElem? he)
      have f3 := P.2.2.2.2.2 (H.2 e.1).1
      have ew : wGo T L H sh (n + 1) k Q = wGo T L H sh n (k + 1) (wSlots T L H sh e.1 k e.2.2.2 (fldT T L (H.2 e.1).1) 0 Q) := by
        show (match Q[k]? with
          | none => Q
          | some e => wGo T L H sh n (k + 1) (wSlots T L H sh e.1 k e.2.2.2 (fldT T L (H.2 e.1).1) 0 Q)) = _
        rw [he]
      rw [ew]
      obtain ⟨s1, a1, a2, a3, a4⟩ := lq_188c (d := d) P hsh (fldT T L (H.2 e.1).1) 0 mjN Q s he (by omega) (by unfold mjN; omega) hW W hQ
      obtain ⟨s2, d1, d2, d3, d4⟩ := lq_186q P hsh n (k + 1) m _ s1 (by omega) (by omega) (hW.ws a2.toC) a3 a4
      refine ⟨s2, ?_, offG.tr a2 d2, d3, d4⟩
      have x188 : mjF (d + 3) 188 [.ref 91, .int (nI e.1), .int (nI sh)] (mjW0 s) = some (none, mjW0 s1) := by
        rw [e_188]
        unfold f_188 b_188_0
        rw [xV_91, x_189 (d := d) P hW e1 e2, bI_s]
        exact a1
      rw [L186q_S]
      unfold b_186_81
      rw [xg_91_0, xg_79_2, hW.2.1, if_neg (nI_ge (by omega) (by omega)), xg_91_3, W.1, if_neg (nI_ge (by omega) (by omega)), xg_91_2, wa_92 (by omega), W.2.1 k e he, xV_91, x188, bN_s, nI_1]
      exact d1
theorem L186r_S (R : mjR) (n a : Nat) (x y u : Int32) (hp : mjH) : L_186_35 R (n + 1) a x y u hp = b_186_35 R (L_186_35 R n) a x y u hp := rfl
theorem lq_186r (P : HWp T L b H) (hsh : sh ≤ H.1) : ∀ (r o m : Nat) (Q : WQ) (s : mjSt3), o + r = H.1 + 1 → 1 ≤ o → r < m → HWc T L q H s → WCr H Q s → WOK H Q → ∃ s', L_186_35 (mjF (d + 3)) m 91 0 (nI sh) (nI o) (mjW0 s) = some (none, mjW0 s') ∧ oWs s s' ∧ WCr H (wGo T L H sh (H.1 + 1) 0 (wRoots H sh r o Q)) s' ∧ WOK H (wGo T L H sh (H.1 + 1) 0 (wRoots H sh r o Q))
  | r, o, 0, Q, s, eo, o1, hm, hW, W, hQ => by omega
  | 0, o, m + 1, Q, s, eo, o1, hm, hW, W, hQ => by
    have b1 := P.2.1.1
    have b2' := P.2.1.2
    obtain ⟨s', a1, a2, a3, a4⟩ := lq_186q (d := d) P hsh (H.1 + 1) 0 mjN Q s (by omega) (by unfold mjN; omega) hW W hQ
    refine ⟨s', ?_, a2, a3, a4⟩
    rw [L186r_S]
    unfold b_186_35 b_186_79
    rw [xg_91_0, xg_79_2, hW.2.1, if_pos (nI_lt (by omega) (by omega))]
    exact a1
  | r + 1, o, m + 1, Q, s, eo, o1, hm, hW, W, hQ => by
    have b1 := P.2.1.1
    have b2' := P.2.1.2
    have ol := (P.1 o o1 (by omega)).2.1 0
    have st : wRoots H sh (r + 1) o Q = wRoots H sh r (o + 1) (wRoot H sh o Q) := rfl
    have x49 : mjF (d + 3) 49 [.ref 79, .int (nI o), .int 0] (mjW0 s) = some (some (.int (nI ((H.2 o).2.1 0))), mjW0 s) := x_49 (d := d + 2) (i := 0) hW.1 P.2.1 o1 (by omega) (P.n1 o1 (by omega))
    have pre : L_186_35 (mjF (d + 3)) (m + 1) 91 0 (nI sh) (nI o) (mjW0 s) = (if nI ((H.2 o).2.1 0) = 0 then (if nI o = nI sh then L_186_35 (mjF (d + 3)) m 91 0 (nI sh) (nI (o + 1)) (mjW0 s) else bN (mjF (d + 3) 187 [.ref 91, .int (nI o), .int 0] (mjW0 s)) (fun hp6 => L_186_35 (mjF (d + 3)) m 91 0 (nI sh) (nI (o + 1)) hp6)) else L_186_35 (mjF (d + 3)) m 91 0 (nI sh) (nI (o + 1)) (mjW0 s)) := by
      rw [L186r_S]
      unfold b_186_35 b_186_73
      rw [xg_91_0, xg_79_2, hW.2.1, if_neg (nI_nlt (by omega) (by omega)), if_pos rfl, xg_91_0, xV_79, x49, bI_s, nI_1, xV_91]
    rw [pre, st]
    by_cases g : (H.2 o).2.1 0 = 0 ∧ ¬ o = sh
    · have ew : wRoot H sh o Q = wCome Q o 0 0 0 := if_pos g
      rw [ew, if_pos (by rw [g.1]; rfl), if_neg (fun x => g.2 ((nI_eq (by omega) (by omega)).mp x))]
      obtain ⟨s1, a1, a2, a3, a4⟩ := x_187 (d := d + 2) (fo := 0) (fi := 0) (dd := 0) W hQ (by omega) o1 (by omega) (Or.inl ⟨rfl, rfl⟩)
      have a1' : mjF (d + 3) 187 [.ref 91, .int (nI o), .int 0] (mjW0 s) = some (none, mjW0 s1) := a1
      obtain ⟨s2, d1, d2, d3, d4⟩ := lq_186r P hsh r (o + 1) m _ s1 (by omega) (by omega) (by omega) (hW.ws a2.toC) a3 a4
      exact ⟨s2, by rw [a1', bN_s]; exact d1, offG.tr a2 d2, d3, d4⟩
    · have ew : wRoot H sh o Q = Q := if_neg g
      rw [ew]
      have ih := lq_186r P hsh r (o + 1) m Q s (by omega) (by omega) (by omega) hW W hQ
      by_cases g0 : (H.2 o).2.1 0 = 0
      · have g1 : o = sh := Classical.byContradiction (fun x => g ⟨g0, x⟩)
        rw [if_pos (by rw [g0]; rfl), if_pos (by rw [g1])]
        exact ih
      · rw [if_neg (nI_ne0 (by omega) (by omega))]
        exact ih
/-- nothing is come to yet -/
theorem x_186p (hb : H.1 ≤ 1334) (h79 : s.1 79 2 = nI H.1) : ∃ s', (∀ (R : mjR) (l1 l2 : Int32), (∀ (v : Nat) (hp : mjH), R 379 [.ref v, .int 0, .int (nI (H.1 + 1)), .int (-1)] hp = mjF (d + 2) 379 [.ref v, .int (nI 0), .int (nI (H.1 + 1)), .int (-1)] hp) → b_186_0 R 91 l1 l2 (mjW0 s) = (if l1 = 0 then b_186_33 R 91 l1 l2 (mjW0 s') else rV (mjW0 s') 91 10 (bN (R 187 [.ref 91, .int l1, .int (0 : Int32)] (mjW0 s')) (fun hp6 => b_186_33 R 91 l1 l2 hp6)))) ∧ oWs s s' ∧ WCr H [] s' := by
  obtain ⟨z1, g1⟩ : ∃ y, y = uI s 91 (upd (s.1 91) 3 0) := ⟨_, rfl⟩
  obtain ⟨z2, g2⟩ : ∃ y, y = uI z1 93 (fillF (z1.1 93) 0 (H.1 + 1) (-1)) := ⟨_, rfl⟩
  have c1 : z1.1 79 2 = nI H.1 := by rw [g1, uI_ne _ _ _ _ (by decide)]; exact h79
  refine ⟨z2, fun R l1 l2 hR => ?_, offG.tr (b := z1) (by rw [g1]; exact oWs.w1) (by rw [g2]; exact oWs.w2 (by omega)), ⟨?_, fun k e he => (by cases he), fun e he => (by cases he), fun o ho _ => ?_⟩⟩
  · unfold b_186_0
    rw [xp_91_3, ← g1, xg_91_4, xg_91_0, xg_79_2, c1, nI_1, hR, q_379 tT_93 (by decide) (by omega) (by omega), bN_s, ← g2]
  · rw [g2, uI_ne _ _ _ _ (by decide), g1, uI_same, upd_g, if_pos rfl]; rfl
  · rw [g2, uI_same]
    show (if 0 ≤ o ∧ o < H.1 + 1 then (-1 : Int32) else z1.1 93 o) = -1
    rw [if_pos ⟨Nat.zero_le _, by omega⟩]
/-- spread from all ROOTS but one -/
theorem x_186R (P : HWp T L b H) (hsh : sh ≤ H.1) (hW : HWc T L q H s) : ∃ s', mjF (d + 4) 186 [.ref 91, .int 0, .int (nI sh)] (mjW0 s) = some (none, mjW0 s') ∧ oWs s s' ∧ WCr H (walkR T L H sh) s' ∧ WOK H (walkR T L H sh) := by
  have b1 := P.2.1.1
  have b2' := P.2.1.2
  obtain ⟨s1, c1, c2, c3⟩ := x_186p (d := d + 1) (H := H) (s := s) (by omega) hW.2.1
  obtain ⟨s', a1, a2, a3, a4⟩ := lq_186r (d := d) P hsh H.1 1 mjN [] s1 (by omega) (by omega) (by unfold mjN; omega) (hW.ws c2.toC) c3 WOK.nil
  refine ⟨s', ?_, offG.tr c2 a2, a3, a4⟩
  rw [e_186]
  unfold f_186
  rw [c1 (mjF (d + 3)) 0 (nI sh) (fun v hp => rfl), if_pos rfl]
  unfold b_186_33
  exact a1
/-- spread from an OBJECT -/
theorem x_186O (P : HWp T L b H) (o1 : 1 ≤ o) (o2 : o ≤ H.1) (hW : HWc T L q H s) : ∃ s', mjF (d + 4) 186 [.ref 91, .int (nI o), .int 0] (mjW0 s) = some (none, mjW0 s') ∧ oWs s s' ∧ WCr H (walkO T L H o) s' ∧ WOK H (walkO T L H o) := by
  have b1 := P.2.1.1
  have b2' := P.2.1.2
  obtain ⟨s1, c1, c2, c3⟩ := x_186p (d := d + 1) (H := H) (s := s) (by omega) hW.2.1
  obtain ⟨s2, e1, e2, e3, e4⟩ := x_187 (d := d + 2) (fo := 0) (fi := 0) (dd := 0) c3 WOK.nil (by omega) o1 o2 (Or.inl ⟨rfl, rfl⟩)
  have ew : wCome [] o 0 0 0 = [(o, 0, 0, 0)] := rfl
  rw [ew] at e3 e4
  have e1' : mjF (d + 3) 187 [.ref 91, .int (nI o), .int 0] (mjW0 s1) = some (none, mjW0 s2) := e1
  have hW2 := (hW.ws c2.toC).ws e2.toC
  obtain ⟨s3, f1, f2, f3, f4⟩ := lq_186q (d := d) (sh := 0) P (Nat.zero_le _) (H.1 + 1) 0 mjN _ s2 (by omega) (by unfold mjN; omega) hW2 e3 e4
  refine ⟨s3, ?_, offG.tr c2 (offG.tr e2 f2), f3, f4⟩
  rw [e_186]
  unfold f_186
  rw [c1 (mjF (d + 3)) (nI o) 0 (fun v hp => rfl), if_neg (nI_ne0 (by omega) (by omega)), xV_91, e1', bN_s]
  unfold b_186_33
  rw [show mjN = 99999999 + 1 from rfl, L186r_S]
  unfold b_186_35 b_186_79
  rw [xg_91_0, xg_79_2, hW2.2.1]
  have : (if nI H.1 < 1 then L_186_81 (mjF (d + 3)) mjN 91 0 0 (mjW0 s2) else if nI o = 0 then gR (mjW0 s2) 91 10 0 (fun v3 => rV (mjW0 s2) v3 3 (bI (mjF (d + 3) 49 [.ref v3, .int 1, .int (0 : Int32)] (mjW0 s2)) (fun v4 hp5 => (if v4 = 0 then (if (1 : Int32) = 0 then b_186_73 (mjF (d + 3)) (L_186_35 (mjF (d + 3)) 99999999) 91 (nI o) 0 1 hp5 else rV hp5 91 10 (bN (mjF (d + 3) 187 [.ref 91, .int 1, .int (0 : Int32)] hp5) (fun hp6 => b_186_73 (mjF (d + 3)) (L_186_35 (mjF (d + 3)) 99999999) 91 (nI o) 0 1 hp6))) else b_186_73 (mjF (d + 3)) (L_186_35 (mjF (d + 3)) 99999999) 91 (nI o) 0 1 hp5)))) else L_186_81 (mjF (d + 3)) mjN 91 0 0 (mjW0 s2)) = some (none, mjW0 s3) := by
    rw [if_neg (show ¬ nI H.1 < 1 from nI_nlt (b := 1) (by omega) (by omega)), if_neg (nI_ne0 (by omega) (by omega))]
    exact f1
  exact this
end MJB94
end
section
/-! ===== what is come to is closed; HOPS; past ===== -/
section MJB95
variable {T : TT} {d b q o fo fi dd sh k i n m c x : Nat} {L : List CD} {H : HEAP} {Q : WQ} {s s' : mjSt3} {e : Nat × Nat × Nat × Nat} {a v : Int32}
theorem inW.app {R : WQ} (h : inW Q x) : inW (Q ++ R) x := by
  obtain ⟨y, y1, y2⟩ := h
  exact ⟨y, List.mem_append_left _ y1, y2⟩
theorem hop_pre : ∃ R, wHop T L H sh fo fi dd i Q = Q ++ R := by
  unfold wHop
  by_cases g : hopN T L H fo i = 0 ∨ hopN T L H fo i = sh
  · rw [if_pos g]; exact ⟨[], (List.append_nil Q).symm⟩
  · rw [if_neg g]; exact come_pre
theorem slots_pre : ∀ (r i : Nat) (Q : WQ), ∃ R, wSlots T L H sh fo fi dd r i Q = Q ++ R
  | 0, i, Q => ⟨[], (List.append_nil Q).symm⟩
  | r + 1, i, Q => by
    obtain ⟨R1, e1⟩ := hop_pre (T := T) (L := L) (H := H) (sh := sh) (fo := fo) (fi := fi) (dd := dd) (i := i) (Q := Q)
    obtain ⟨R2, e2⟩ := slots_pre r (i + 1) (wHop T L H sh fo fi dd i Q)
    refine ⟨R1 ++ R2, ?_⟩
    show wSlots T L H sh fo fi dd r (i + 1) (wHop T L H sh fo fi dd i Q) = _
    rw [e2, e1, List.append_assoc]
/-- every HOP of an OBJECT -/
theorem slots_in : ∀ (r i : Nat) (Q : WQ) (j : Nat), i ≤ j → j < i + r → hopN T L H fo j = 0 ∨ hopN T L H fo j = sh ∨ inW (wSlots T L H sh fo fi dd r i Q) (hopN T L H fo j)
  | 0, i, Q, j, h1, h2 => by omega
  | r + 1, i, Q, j, h1, h2 => by
    show _ ∨ _ ∨ inW (wSlots T L H sh fo fi dd r (i + 1) (wHop T L H sh fo fi dd i Q)) (hopN T L H fo j)
    by_cases e : j = i
    · rw [e]
      by_cases g : hopN T L H fo i = 0
      · exact Or.inl g
      · by_cases g2 : hopN T L H fo i = sh
        · exact Or.inr (Or.inl g2)
        · refine Or.inr (Or.inr ?_)
          obtain ⟨R, eR⟩ := slots_pre (T := T) (L := L) (H := H) (sh := sh) (fo := fo) (fi := fi) (dd := dd) r (i + 1) (wHop T L H sh fo fi dd i Q)
          rw [eR]
          refine inW.app ?_
          unfold wHop
          rw [if_neg (fun y => y.elim g g2)]
          exact come_in
    · exact slots_in r (i + 1) _ j (by omega) (by omega)
def clsQ (T : TT) (L : List CD) (H : HEAP) (sh : Nat) (Q : WQ) (k : Nat) : Prop := ∀ (j : Nat) (e : Nat × Nat × Nat × Nat), j < k → Q[j]? = some e → ∀ i, i < fldT T L (H.2 e.1).1 → hopN T L H e.1 i = 0 ∨ hopN T L H e.1 i = sh ∨ inW Q (hopN T L H e.1 i)
theorem cls_go (hsh : sh ≤ H.1) (P : HWp T L b H) : ∀ (n k : Nat) (Q : WQ), n + k = H.1 + 1 → WOK H Q → clsQ T L H sh Q k → (∀ e, e ∈ wGo T L H sh n k Q → ∀ i, i < fldT T L (H.2 e.1).1 → hopN T L H e.1 i = 0 ∨ hopN T L H e.1 i = sh ∨ inW (wGo T L H sh n k Q) (hopN T L H e.1 i)) ∧ WOK H (wGo T L H sh n k Q) ∧ ∃ R, wGo T L H sh n k Q = Q ++ R
  | 0, k, Q, en, hQ, hc => by
    refine ⟨fun e he => ?_, hQ, [], (List.append_nil Q).symm⟩
    obtain ⟨j, hj⟩ := List.getElem?_of_mem (show e ∈ Q from he)
    have jl := (List.getElem?_eq_some_iff.mp hj).1
    have ln := hQ.len
    exact hc j e (by omega) hj
  | n + 1, k, Q, en, hQ, hc => by
    have ln := hQ.len
    cases he : Q[k]? with
    | none =>
      have kl := List.getElem?_eq_none_iff.mp he
      have ew : wGo T L H sh (n + 1) k Q = Q := by
        show (match Q[k]? with
          | none => Q
          | some e => wGo T L H sh n (k + 1) (wSlots T L H sh e.1 k e.2.2.2 (fldT T L (H.2 e.1).1) 0 Q)) = Q
        rw [he]
      rw [ew]
      refine ⟨fun e he => ?_, hQ, [], (List.append_nil Q).symm⟩
      obtain ⟨j, hj⟩ := List.getElem?_of_mem he
      have jl := (List.getElem?_eq_some_iff.mp hj).1
      exact hc j e (by omega) hj
    | some e =>
      have ew : wGo T L H sh (n + 1) k Q = wGo T L H sh n (k + 1) (wSlots T L H sh e.1 k e.2.2.2 (fldT T L (H.2 e.1).1) 0 Q) := by
        show (match Q[k]? with
          | none => Q
          | some e => wGo T L H sh n (k + 1) (wSlots T L H sh e.1 k e.2.2.2 (fldT T L (H.2 e.1).1) 0 Q)) = _
        rw [he]
      rw [ew]
      obtain ⟨R, eR⟩ := slots_pre (T := T) (L := L) (H := H) (sh := sh) (fo := e.1) (fi := k) (dd := e.2.2.2) (fldT T L (H.2 e.1).1) 0 Q
      have hok : ∀ (r i : Nat) (Q : WQ), Q[k]? = some e → WOK H Q → WOK H (wSlots T L H sh e.1 k e.2.2.2 r i Q) := by
        intro r
        induction r with
        | zero => exact fun i Q _ h => h
        | succ r ih =>
          intro i Q hk h
          show WOK H (wSlots T L H sh e.1 k e.2.2.2 r (i + 1) (wHop T L H sh e.1 k e.2.2.2 i Q))
          obtain ⟨e1, e2⟩ := h.2.1 e (List.mem_of_getElem? hk)
          have b1 := P.2.1.1
          have b2' := P.2.1.2
          have hh := (hop_ok (T := T) (L := L) (H := H) (o := e.1) (i := i) P.1 (by omega) e1 e2).1
          obtain ⟨R, eR⟩ := hop_pre (T := T) (L := L) (H := H) (sh := sh) (fo := e.1) (fi := k) (dd := e.2.2.2) (i := i) (Q := Q)
          refine ih (i + 1) _ (by rw [eR]; exact pre_at hk) ?_
          unfold wHop
          by_cases g : hopN T L H e.1 i = 0 ∨ hopN T L H e.1 i = sh
          · rw [if_pos g]; exact h
          · rw [if_neg g]
            exact h.come (by
              by_cases z : hopN T L H e.1 i = 0
              · exact absurd (Or.inl z) g
              · omega) hh (Or.inr ⟨e1, e, hk, rfl, rfl⟩)
      obtain ⟨c1, c2, R2, c3⟩ := cls_go hsh P n (k + 1) (wSlots T L H sh e.1 k e.2.2.2 (fldT T L (H.2 e.1).1) 0 Q) (by omega) (hok _ _ _ he hQ) (fun j y hj hy i hi => by
        by_cases q : j = k
        · rw [q, eR, pre_at he] at hy
          have ey := Option.some.inj hy
          rw [← ey] at hi ⊢
          exact slots_in _ _ _ i (by omega) (by omega)
        · have hy' : Q[j]? = some y := by
            rw [eR, List.getElem?_append_left (by have := (List.getElem?_eq_some_iff.mp he).1; omega)] at hy
            exact hy
          rcases hc j y (by omega) hy' i hi with h | h | h
          · exact Or.inl h
          · exact Or.inr (Or.inl h)
          · exact Or.inr (Or.inr (by rw [eR]; exact h.app)))
      exact ⟨c1, c2, R ++ R2, by rw [c3, eR, List.append_assoc]⟩
theorem roots_ok (P : HWp T L b H) : ∀ (r o : Nat) (Q : WQ), o + r = H.1 + 1 → 1 ≤ o → WOK H Q → WOK H (wRoots H sh r o Q)
  | 0, o, Q, _, _, h => h
  | r + 1, o, Q, eo, o1, h => by
    show WOK H (wRoots H sh r (o + 1) (wRoot H sh o Q))
    refine roots_ok P r (o + 1) _ (by omega) (by omega) ?_
    unfold wRoot
    by_cases g : (H.2 o).2.1 0 = 0 ∧ ¬ o = sh
    · rw [if_pos g]; exact h.come o1 (by omega) (Or.inl ⟨rfl, rfl⟩)
    · rw [if_neg g]; exact h
/-- from all ROOTS but one: closed -/
theorem walkR_cl (P : HWp T L b H) (hsh : sh ≤ H.1) (he : e ∈ walkR T L H sh) (hi : i < fldT T L (H.2 e.1).1) : hopN T L H e.1 i = 0 ∨ hopN T L H e.1 i = sh ∨ inW (walkR T L H sh) (hopN T L H e.1 i) := (cls_go hsh P (H.1 + 1) 0 (wRoots H sh H.1 1 []) (by omega) (roots_ok P H.1 1 [] (by omega) (by omega) WOK.nil) (fun j y hj _ => absurd hj (Nat.not_lt_zero j))).1 e he i hi
theorem L191_S (R : mjR) (n a : Nat) (x y : Int32) (hp : mjH) : L_191_9 R (n + 1) a x y hp = b_191_9 R (L_191_9 R n) a x y hp := rfl
theorem lq_191 (R : mjR) (hb : H.1 ≤ 1334) (h79 : s.1 79 2 = nI H.1) (W : WCr H Q s) (hQ : WOK H Q) : ∀ (n k m h : Nat) (e : Nat × Nat × Nat × Nat), k ≤ n → n < m → h + k ≤ H.1 → Q[k]? = some e → L_191_9 R m 91 (nI h) (nI e.2.1) (mjW0 s) = some (some (.int (nI (h + e.2.2.2))), mjW0 s)
  | n, k, 0, h, e, hk, hm, hh, he => by omega
  | n, k, m + 1, h, e, hk, hm, hh, he => by
    have ln := hQ.len
    have kl := (List.getElem?_eq_some_iff.mp he).1
    rw [L191_S]
    unfold b_191_9 b_191_37
    rcases hQ.2.2 k e he with ⟨h1, h2⟩ | ⟨h0, h1, p, p1, p2, p3⟩
    · rw [h1, if_pos (show nI 0 ≤ (0 : Int32) by decide), h2]
      rfl
    · have pm := List.mem_of_getElem? p1
      have pr := hQ.2.1 p pm
      cases n with
      | zero => omega
      | succ n =>
        have ih := lq_191 R hb h79 W hQ n e.2.2.1 m (h + 1) p (by omega) (by omega) (by omega) p1
        rw [if_neg (nI_nle (by omega) (by omega)), xg_91_0, xg_79_2, h79, if_neg (nI_nlt (by omega) (by omega)), xg_91_4, wa_93 (by omega), ← p2, W.2.2.1 p pm, nI_1, ih, p3, show h + 1 + p.2.2.2 = h + (p.2.2.2 + 1) by omega]
/-- hopsTo -/
theorem x_191 (hb : H.1 ≤ 1334) (h79 : s.1 79 2 = nI H.1) (W : WCr H Q s) (hQ : WOK H Q) (he : Q[k]? = some e) : mjF (d + 1) 191 [.ref 91, .int (nI e.1)] (mjW0 s) = some (some (.int (nI e.2.2.2)), mjW0 s) := by
  have ln := hQ.len
  have kl := (List.getElem?_eq_some_iff.mp he).1
  have em := List.mem_of_getElem? he
  have er := hQ.2.1 e em
  have l := lq_191 (mjF d) hb h79 W hQ k k mjN 0 e (Nat.le_refl _) (by unfold mjN; omega) (by omega) he
  rw [Nat.zero_add] at l
  rw [e_191]
  unfold f_191 b_191_0
  rw [xg_91_4, wa_93 (by omega), W.2.2.1 e em]
  exact l
theorem x_191n (hb : H.1 ≤ 1334) (W : WCr H Q s) (o2 : o ≤ H.1) (hn : ¬ inW Q o) : mjF (d + 1) 191 [.ref 91, .int (nI o)] (mjW0 s) = some (some (.int 0), mjW0 s) := by
  rw [e_191]
  unfold f_191 b_191_0
  rw [xg_91_4, wa_93 (by omega), W.2.2.2 o o2 hn, show mjN = 99999999 + 1 from rfl, L191_S]
  unfold b_191_9 b_191_37
  rw [if_pos (show (-1 : Int32) ≤ 0 by decide)]
/-- hopsBetween -/
theorem x_185 (P : HWp T L b H) (hW : HWc T L q H s) (o1 : 1 ≤ o) (o2 : o ≤ H.1) (hc2 : c ≤ H.1) : ∃ s' v, mjF (d + 5) 185 [.ref 91, .int (nI o), .int (nI c)] (mjW0 s) = some (some (.int v), mjW0 s') ∧ oWs s s' ∧ ((v = -1 ∧ ¬ inW (walkO T L H o) c) ∨ ∃ (k : Nat) (e : Nat × Nat × Nat × Nat), (walkO T L H o)[k]? = some e ∧ e.1 = c ∧ v = nI e.2.2.2) := by
  have b1 := P.2.1.1
  have b2' := P.2.1.2
  obtain ⟨s1, a1, a2, a3, a4⟩ := x_186O (d := d) P o1 o2 hW
  have pre : mjF (d + 5) 185 [.ref 91, .int (nI o), .int (nI c)] (mjW0 s) = (if s1.1 93 c = -1 then some (some (.int (-1)), mjW0 s1) else rV (mjW0 s1) 91 10 (bI (mjF (d + 4) 191 [.ref 91, .int (nI c)] (mjW0 s1)) (fun v4 hp5 => some (some (.int v4), hp5)))) := by
    rw [e_185]
    unfold f_185 b_185_0
    rw [xV_91, a1, bN_s, xg_91_4, wa_93 (by omega)]
  by_cases g : inW (walkO T L H o) c
  · obtain ⟨y, y1, y2⟩ := g
    obtain ⟨k, hk⟩ := List.getElem?_of_mem y1
    have v93 := a3.2.2.1 y y1
    rw [y2] at v93
    have x3 : y.2.1 < 2 ^ 31 := by
      rcases a4.2.2 k y hk with h | ⟨_, _, p, p1, p2, _⟩
      · omega
      · have := a4.2.1 p (List.mem_of_getElem? p1)
        omega
    have x191 := x_191 (d := d + 3) (by omega) (hW.ws a2.toC).2.1 a3 a4 hk
    rw [y2] at x191
    refine ⟨s1, nI y.2.2.2, ?_, a2, Or.inr ⟨k, y, hk, y2, rfl⟩⟩
    rw [pre, v93, if_neg (nI_m1 x3), xV_91, x191, bI_s]
  · refine ⟨s1, -1, ?_, a2, Or.inl ⟨rfl, g⟩⟩
    rw [pre, a3.2.2.2 c hc2 g, if_pos rfl]
theorem L197_S (R : mjR) (n a : Nat) (x y u : Int32) (hp : mjH) : L_197_20 R (n + 1) a x y u hp = b_197_20 R (L_197_20 R n) a x y u hp := rfl
/-- isLeak answers -/
theorem lq_197 (R : mjR) (hb : H.1 ≤ 1334) (h79 : s.1 79 2 = nI H.1) (N9 : ∀ o, o ≤ H.1 → s.1 94 o = -1 ∨ ∃ a, a ≤ H.1 ∧ s.1 94 o = nI a) : ∀ (r k m : Nat) (w x : Int32), k + r = H.1 + 1 → r < m → (x = -1 ∨ ∃ a, a ≤ H.1 ∧ x = nI a) → ∃ v : Bool, L_197_20 R m 91 w x (nI k) (mjW0 s) = some (some (.int (b2 v)), mjW0 s)
  | r, k, 0, w, x, e, hm, hx => by omega
  | r, k, m + 1, w, x, e, hm, hx => by
    have fin : ∃ v : Bool, b_197_54 R w x (mjW0 s) = some (some (.int (b2 v)), mjW0 s) := by
      unfold b_197_54 b_197_66
      by_cases g1 : w = 0
      · exact ⟨false, by rw [if_pos g1]; rfl⟩
      · rw [if_neg g1]
        by_cases g2 : x = 0
        · exact ⟨true, by rw [if_pos g2]; rfl⟩
        · exact ⟨false, by rw [if_neg g2]; rfl⟩
    rw [L197_S]
    unfold b_197_20
    rw [xg_91_0, xg_79_2, h79]
    by_cases g1 : nI H.1 < nI k
    · rw [if_pos g1]; exact fin
    · rw [if_neg g1]
      by_cases g2 : x ≤ 0
      · rw [if_pos g2]; exact fin
      · rw [if_neg g2]
        by_cases g3 : x = w
        · rw [if_pos g3]; exact fin
        · rcases hx with hx | ⟨y, y1, y2⟩
          · rw [hx] at g2
            exact absurd (show (-1 : Int32) ≤ 0 by decide) g2
          · cases r with
            | zero => exact absurd (nI_lt (show H.1 < k by omega) (by omega)) g1
            | succ r =>
              rw [if_neg g3, xg_91_6, y2, wa_94 (by omega), nI_1]
              exact lq_197 R hb h79 N9 r (k + 1) m w _ (by omega) (by omega) (N9 y y1)
theorem x_197 (P : HWp T L b H) (hW : HWc T L q H s) (N9 : ∀ o, o ≤ H.1 → s.1 94 o = -1 ∨ ∃ a, a ≤ H.1 ∧ s.1 94 o = nI a) (o1 : 1 ≤ o) (o2 : o ≤ H.1) : ∃ v : Bool, mjF (d + 2) 197 [.ref 91, .int (nI o)] (mjW0 s) = some (some (.int (b2 v)), mjW0 s) := by
  have b1 := P.2.1.1
  have b2' := P.2.1.2
  have x49 : mjF (d + 1) 49 [.ref 79, .int (nI o), .int 0] (mjW0 s) = some (some (.int (nI ((H.2 o).2.1 0))), mjW0 s) := x_49 (d := d) (i := 0) hW.1 P.2.1 o1 o2 (P.n1 o1 o2)
  obtain ⟨v, l⟩ := lq_197 (mjF (d + 1)) (show H.1 ≤ 1334 by omega) hW.2.1 N9 (H.1 + 1) 0 mjN (nI ((H.2 o).2.1 0)) (s.1 94 o) (by omega) (by unfold mjN; omega) (N9 o o2)
  refine ⟨v, ?_⟩
  rw [e_197]
  unfold f_197 b_197_0
  rw [xg_91_0, xV_79, x49, bI_s, xg_91_6, wa_94 (by omega)]
  exact l
theorem L200_S (R : mjR) (n a : Nat) (x y u : Int32) (hp : mjH) : L_200_51 R (n + 1) a x y u hp = b_200_51 R (L_200_51 R n) a x y u hp := rfl
theorem lq_200 (R : mjR) (hb : H.1 ≤ 1334) (W : WCr H Q s) (hQ : WOK H Q) (hx : x ≤ 4000) : ∀ (n k m : Nat) (e : Nat × Nat × Nat × Nat), k < n → n < m → Q[k]? = some e → L_200_51 R m 91 (nI x) (nI e.1) (nI e.2.2.2) (mjW0 s) = some (some (.int (nI (upQ Q x n k))), mjW0 s)
  | n, k, 0, e, hk, hm, he => by omega
  | 0, k, m + 1, e, hk, hm, he => by omega
  | n + 1, k, m + 1, e, hk, hm, he => by
    have ln := hQ.len
    have kl := (List.getElem?_eq_some_iff.mp he).1
    have ds := hQ.dist k k e (Nat.le_refl _) he
    have em := List.mem_of_getElem? he
    have er := hQ.2.1 e em
    rw [L200_S, upQ_at he]
    unfold b_200_51
    by_cases g : e.2.2.2 ≤ x
    · rw [if_pos (nI_le g (by omega)), if_pos g]
    · rw [if_neg (nI_ge (by omega) (by omega)), if_neg g, xg_91_4, wa_93 (by omega), W.2.2.1 e em]
      rcases hQ.2.2 k e he with ⟨_, h⟩ | ⟨h0, h1, p, p1, p2, p3⟩
      · omega
      · rw [← p2, p3, nI_m]
        exact lq_200 R hb W hQ hx n e.2.2.1 m p (by omega) (by omega) p1
end MJB95
end
section
/-! ===== a row copied into another ===== -/
section MJB96A
variable {s : mjSt3} {m : Nat} {k : mjH → mjU}
theorem row_93 : (mjW0 s)[93]? = some (.inl (0, 1335, .inl (s.1 93))) := by
  unfold mjW0
  rw [mjHT_get, tT_93]
  rfl
theorem row_94 : (mjW0 s)[94]? = some (.inl (0, 1335, .inl (s.1 94))) := by
  unfold mjW0
  rw [mjHT_get, tT_94]
  rfl
theorem cp_94 (h : m ≤ 1335) : cpY (mjW0 s) 93 0 94 0 (nI m) k = k (mjW0 (uI s 94 (va_cpy (s.1 93) (s.1 94) 0 0 m))) := by
  have z0 : (0 : Int32).toNatClampNeg = 0 := rfl
  have zm : (nI m).toNatClampNeg = m := nI_clamp (by omega)
  have c : ((0 : Nat) == 0 && (0 : Nat) == 0 && !decide ((0 : Int32) < 0) && !decide ((0 : Int32) < 0) && !decide (nI m < 0) && decide ((0 : Int32).toNatClampNeg + (nI m).toNatClampNeg ≤ 1335) && decide ((0 : Int32).toNatClampNeg + (nI m).toNatClampNeg ≤ 1335)) = true := by
    rw [zm, z0, decide_eq_false (nI_pos (show m < 2 ^ 31 by omega)), decide_eq_true (show 0 + m ≤ 1335 by omega)]
    rfl
  have st : (mjW0 s).set 94 (.inl (0, 1335, .inl (va_cpy (s.1 93) (s.1 94) 0 0 m))) = mjW0 (uI s 94 (va_cpy (s.1 93) (s.1 94) 0 0 m)) := by
    have := mjHT_set (T := T_0) (s := s) (s' := uI s 94 (va_cpy (s.1 93) (s.1 94) 0 0 m)) tT_94 (fun h' e => ⟨uI_ne _ _ _ _ e, rfl, rfl⟩)
    have e2 : tc (uI s 94 (va_cpy (s.1 93) (s.1 94) 0 0 m)) 94 (.inl (0, 1335, false)) = .inl (0, 1335, .inl (va_cpy (s.1 93) (s.1 94) 0 0 m)) := by
      show (Sum.inl (0, 1335, .inl ((uI s 94 (va_cpy (s.1 93) (s.1 94) 0 0 m)).1 94)) : va_E) = _
      rw [uI_same]
    rw [e2] at this
    exact this
  unfold cpY
  rw [row_93, row_94]
  dsimp only
  rw [c]
  dsimp only
  rw [zm, z0, st]
end MJB96A
end
section
/-! ===== findNearest, learn: the class ===== -/
/-- an OBJECT that was come to, or none -/
def vQ (Q : WQ) (x : Nat) : Prop := x = 0 ∨ inW Q x
def NRc (H : HEAP) (Q : WQ) (s : mjSt3) : Prop := s.1 91 3 = nI Q.length ∧ (∀ (k : Nat) (e : Nat × Nat × Nat × Nat), Q[k]? = some e → s.1 92 k = nI e.1) ∧ s.1 94 0 = nI 0 ∧ (∀ x, inW Q x → ∃ a, vQ Q a ∧ s.1 94 x = nI a) ∧ ∀ o, 1 ≤ o → o ≤ H.1 → ¬ inW Q o → s.1 94 o = -1
section MJB97
variable {T : TT} {d b q o k i n m x y : Nat} {L : List CD} {H : HEAP} {Q : WQ} {s s' : mjSt3} {e : Nat × Nat × Nat × Nat}
theorem vQ.le (hQ : WOK H Q) (h : vQ Q x) : x ≤ H.1 := by
  rcases h with h | ⟨y, y1, y2⟩
  · omega
  · have := hQ.2.1 y y1
    omega
theorem NRc.at (N9 : NRc H Q s) (h : vQ Q x) : ∃ a, vQ Q a ∧ s.1 94 x = nI a := by
  rcases h with h | h
  · exact ⟨0, Or.inl rfl, by rw [h]; exact N9.2.2.1⟩
  · exact N9.2.2.2.1 x h
theorem NRc.set (N9 : NRc H Q s) (hx : inW Q x) (hx0 : 1 ≤ x) (hy : vQ Q y) : NRc H Q (uI s 94 (upd (s.1 94) x (nI y))) := by
  obtain ⟨n1, n2, n3, n4, n5⟩ := N9
  have r : ∀ h, ¬ h = 94 → (uI s 94 (upd (s.1 94) x (nI y))).1 h = s.1 h := fun h e => uI_ne _ _ _ _ e
  have v : ∀ j, (uI s 94 (upd (s.1 94) x (nI y))).1 94 j = if j = x then nI y else s.1 94 j := fun j => by rw [uI_same, upd_g]
  refine ⟨by rw [r 91 (by decide)]; exact n1, fun k e he => by rw [r 92 (by decide)]; exact n2 k e he, by rw [v, if_neg (by omega)]; exact n3, fun z hz => ?_, fun o o1 o2 hn => ?_⟩
  · rw [v]
    by_cases g : z = x
    · rw [if_pos g]; exact ⟨y, hy, rfl⟩
    · rw [if_neg g]; exact n4 z hz
  · rw [v, if_neg (fun g => hn (by rw [g]; exact hx))]
    exact n5 o o1 o2 hn
theorem oWc.w {h : Nat} {g : Nat → Int32} (hh : 91 ≤ h ∧ h ≤ 96) : oWc s (uI s h g) := offG_of (fun h' j e => by rw [uI_ne _ _ _ _ (fun q => e (by rw [q]; exact hh))]) rfl
theorem L196_S (R : mjR) (n a : Nat) (x y u : Int32) (hp : mjH) : L_196_8 R (n + 1) a x y u hp = b_196_8 R (L_196_8 R n) a x y u hp := rfl
theorem lq_196 (R : mjR) (hb : H.1 ≤ 1334) (h79 : s.1 79 2 = nI H.1) (hQ : WOK H Q) (N9 : NRc H Q s) : ∀ (r k m x y : Nat), k + r = 2 * H.1 + 1 → r < m → vQ Q x → vQ Q y → ∃ z, vQ Q z ∧ L_196_8 R m 91 (nI x) (nI y) (nI k) (mjW0 s) = some (some (.int (nI z)), mjW0 s)
  | r, k, 0, x, y, e, hm, hx, hy => by omega
  | r, k, m + 1, x, y, e, hm, hx, hy => by
    have xl := hx.le hQ
    have yl := hy.le hQ
    rw [L196_S]
    unfold b_196_8 b_196_69 b_196_63
    rw [xg_91_0, xg_79_2, h79, show (2 : Int32) * nI H.1 = nI (2 * H.1) by rw [show (2 : Int32) = nI 2 from rfl, nI_mul]]
    by_cases g1 : 2 * H.1 < k
    · rw [if_pos (nI_lt g1 (by omega))]
      exact ⟨x, hx, rfl⟩
    · rw [if_neg (nI_nlt (by omega) (by omega))]
      by_cases g2 : x = y
      · rw [if_pos (by rw [g2])]
        exact ⟨x, hx, rfl⟩
      · cases r with
        | zero => omega
        | succ r =>
          obtain ⟨ax, ax1, ax2⟩ := N9.at hx
          obtain ⟨ay, ay1, ay2⟩ := N9.at hy
          rw [if_neg (fun z => g2 ((nI_eq (by omega) (by omega)).mp z)), xg_91_7, wa_95 (by omega), xg_91_7, wa_95 (by omega), xg_91_6, wa_94 (by omega), ay2, xg_91_6, wa_94 (by omega), ax2, nI_1]
          by_cases g3 : s.1 95 x ≤ s.1 95 y
          · rw [if_pos g3]
            exact lq_196 R hb h79 hQ N9 r (k + 1) m x ay (by omega) (by omega) hx ay1
          · rw [if_neg g3]
            exact lq_196 R hb h79 hQ N9 r (k + 1) m ax y (by omega) (by omega) ax1 hy
theorem x_196 (hb : H.1 ≤ 1334) (h79 : s.1 79 2 = nI H.1) (hQ : WOK H Q) (N9 : NRc H Q s) (hx : vQ Q x) (hy : vQ Q y) : ∃ z, vQ Q z ∧ mjF (d + 1) 196 [.ref 91, .int (nI x), .int (nI y)] (mjW0 s) = some (some (.int (nI z)), mjW0 s) := by
  obtain ⟨z, z1, z2⟩ := lq_196 (mjF d) hb h79 hQ N9 (2 * H.1 + 1) 0 mjN x y (by omega) (by unfold mjN; omega) hx hy
  refine ⟨z, z1, ?_⟩
  rw [e_196]
  unfold f_196 b_196_0
  exact z2
theorem L195_S (R : mjR) (n a : Nat) (x y u v : Int32) (hp : mjH) : L_195_11 R (n + 1) a x y u v hp = b_195_11 R (L_195_11 R n) a x y u v hp := rfl
theorem lq_195 (P : HWp T L b H) (hQ : WOK H Q) (hcl : ∀ e, e ∈ Q → ∀ i, i < fldT T L (H.2 e.1).1 → hopN T L H e.1 i = 0 ∨ inW Q (hopN T L H e.1 i)) (he : e ∈ Q) : ∀ (r i m : Nat) (v : Bool) (s : mjSt3), i + r = fldT T L (H.2 e.1).1 → r < m → HWc T L q H s → NRc H Q s → ∃ (w : Bool) (s' : mjSt3), L_195_11 (mjF (d + 2)) m 91 (nI e.1) (b2 v) (nI (fldT T L (H.2 e.1).1)) (nI i) (mjW0 s) = some (some (.int (b2 w)), mjW0 s') ∧ oWc s s' ∧ (∀ h, ¬ h = 94 → s'.1 h = s.1 h) ∧ NRc H Q s'
  | r, i, 0, v, s, ei, hr, hW, N9 => by omega
  | 0, i, m + 1, v, s, ei, hr, hW, N9 => by
    have f3 := P.2.2.2.2.2 (H.2 e.1).1
    refine ⟨v, s, ?_, offG.rf, fun _ _ => rfl, N9⟩
    rw [L195_S]
    unfold b_195_11
    rw [if_pos (nI_le (by omega) (by omega)), if_pos (b2_nar v)]
  | r + 1, i, m + 1, v, s, ei, hr, hW, N9 => by
    have b1 := P.2.1.1
    have b2' := P.2.1.2
    have f3 := P.2.2.2.2.2 (H.2 e.1).1
    obtain ⟨e1, e2⟩ := hQ.2.1 e he
    have il : i < fldT T L (H.2 e.1).1 := by omega
    have hh1 := (hop_ok (T := T) (L := L) (H := H) (o := e.1) (i := i) P.1 (by omega) e1 e2).1
    rw [L195_S]
    unfold b_195_11 b_195_47 b_195_77
    rw [if_neg (nI_ge (by omega) (by omega)), xV_91, x_190 (d := d) P hW e1 e2 il, bI_s]
    by_cases c0 : hopN T L H e.1 i = 0
    · rw [c0, if_pos (show nI 0 = 0 from rfl), if_pos (show nI 0 = 0 from rfl), nI_1]
      exact lq_195 P hQ hcl he r (i + 1) m v s (by omega) (by omega) hW N9
    · have hin := (hcl e he i il).resolve_left c0
      obtain ⟨a, a1, a2⟩ := N9.2.2.2.1 _ hin
      obtain ⟨z, z1, z2⟩ := x_196 (d := d + 1) (by omega) hW.2.1 hQ N9 a1 (show vQ Q e.1 from Or.inr ⟨e, he, rfl⟩)
      have al := a1.le hQ
      have zl := z1.le hQ
      rw [if_neg (nI_ne0 (by omega) (by omega)), xg_91_6, wa_94 (by omega), a2, xV_91, z2, bI_s, if_neg (nI_ne0 (by omega) (by omega)), xg_91_6, wa_94 (by omega), a2, nI_1]
      by_cases g : z = a
      · rw [if_pos (by rw [g])]
        exact lq_195 P hQ hcl he r (i + 1) m v s (by omega) (by omega) hW N9
      · rw [if_neg (fun w => g ((nI_eq (by omega) (by omega)).mp w)), xg_91_6, ws_94 (by omega)]
        have o1 : oWc s (uI s 94 (upd (s.1 94) (hopN T L H e.1 i) (nI z))) := oWc.w (by omega)
        obtain ⟨w, s', c1, c2, c3, c4⟩ := lq_195 P hQ hcl he r (i + 1) m true (uI s 94 (upd (s.1 94) (hopN T L H e.1 i) (nI z))) (by omega) (by omega) (hW.ws o1) (N9.set hin (by omega) z1)
        exact ⟨w, s', c1, offG.tr o1 c2, fun h hh => by rw [c3 h hh, uI_ne _ _ _ _ hh], c4⟩
/-- narrowFrom -/
theorem x_195 (P : HWp T L b H) (hQ : WOK H Q) (hcl : ∀ e, e ∈ Q → ∀ i, i < fldT T L (H.2 e.1).1 → hopN T L H e.1 i = 0 ∨ inW Q (hopN T L H e.1 i)) (he : e ∈ Q) (hW : HWc T L q H s) (N9 : NRc H Q s) : ∃ (w : Bool) (s' : mjSt3), mjF (d + 3) 195 [.ref 91, .int (nI e.1)] (mjW0 s) = some (some (.int (b2 w)), mjW0 s') ∧ oWc s s' ∧ (∀ h, ¬ h = 94 → s'.1 h = s.1 h) ∧ NRc H Q s' := by
  obtain ⟨e1, e2⟩ := hQ.2.1 e he
  have f3 := P.2.2.2.2.2 (H.2 e.1).1
  obtain ⟨w, s', c1, c2⟩ := lq_195 (d := d) P hQ hcl he (fldT T L (H.2 e.1).1) 0 mjN false s (by omega) (by unfold mjN; omega) hW N9
  refine ⟨w, s', ?_, c2⟩
  rw [e_195]
  unfold f_195 b_195_0
  rw [xV_91, x_189 (d := d) P hW e1 e2, bI_s]
  exact c1
theorem L194q_S (R : mjR) (k70 : Nat → Int32 → Int32 → mjH → mjU) (n a : Nat) (x y u : Int32) (hp : mjH) : L_194_84 R k70 (n + 1) a x y u hp = b_194_84 R k70 (L_194_84 R k70 n) a x y u hp := rfl
theorem L194r_S (R : mjR) (n a : Nat) (x y : Int32) (hp : mjH) : L_194_70 R (n + 1) a x y hp = b_194_70 R (L_194_70 R n) a x y hp := rfl
theorem L194k_S (R : mjR) (n a : Nat) (x : Int32) (hp : mjH) : L_194_38 R (n + 1) a x hp = b_194_38 R (L_194_38 R n) a x hp := rfl
/-- one round -/
theorem lq_194q (k70 : Nat → Int32 → Int32 → mjH → mjU) (P : HWp T L b H) (hQ : WOK H Q) (hcl : ∀ e, e ∈ Q → ∀ i, i < fldT T L (H.2 e.1).1 → hopN T L H e.1 i = 0 ∨ inW Q (hopN T L H e.1 i)) : ∀ (r i m : Nat) (l1 : Int32) (s : mjSt3), i + r = Q.length → r < m → HWc T L q H s → NRc H Q s → ∃ (l2 : Int32) (s' : mjSt3), L_194_84 (mjF (d + 3)) k70 m 91 l1 (nI k) (nI i) (mjW0 s) = k70 91 l2 (nI (k + 1)) (mjW0 s') ∧ oWc s s' ∧ (∀ h, ¬ h = 94 → s'.1 h = s.1 h) ∧ NRc H Q s'
  | r, i, 0, l1, s, ei, hr, hW, N9 => by omega
  | 0, i, m + 1, l1, s, ei, hr, hW, N9 => by
    have b1 := P.2.1.1
    have b2' := P.2.1.2
    have ln := hQ.len
    refine ⟨l1, s, ?_, offG.rf, fun _ _ => rfl, N9⟩
    rw [L194q_S]
    unfold b_194_84
    rw [xg_91_3, N9.1, if_pos (nI_le (by omega) (by omega)), nI_1]
  | r + 1, i, m + 1, l1, s, ei, hr, hW, N9 => by
    have b1 := P.2.1.1
    have b2' := P.2.1.2
    have ln := hQ.len
    obtain ⟨e, he⟩ : ∃ e, Q[i]? = some e := ⟨_, List.getElem?_eq_getElem (by omega)⟩
    obtain ⟨w, s1, a1, a2, a3, a4⟩ := x_195 (d := d) P hQ hcl (List.mem_of_getElem? he) hW N9
    have fin : ∀ l2, ∃ (l3 : Int32) (s' : mjSt3), L_194_84 (mjF (d + 3)) k70 m 91 l2 (nI k) (nI (i + 1)) (mjW0 s1) = k70 91 l3 (nI (k + 1)) (mjW0 s') ∧ oWc s s' ∧ (∀ h, ¬ h = 94 → s'.1 h = s.1 h) ∧ NRc H Q s' := by
      intro l2
      obtain ⟨l3, s2, c1, c2, c3, c4⟩ := lq_194q k70 P hQ hcl r (i + 1) m l2 s1 (by omega) (by omega) (hW.ws a2) a4
      exact ⟨l3, s2, c1, offG.tr a2 c2, fun h hh => by rw [c3 h hh, a3 h hh], c4⟩
    rw [L194q_S]
    unfold b_194_84 b_194_114 b_194_109 b_194_114
    rw [xg_91_3, N9.1, if_neg (nI_ge (by omega) (by omega)), xg_91_2, wa_92 (by omega), N9.2.1 i e he, xV_91, a1, bI_s, nI_1]
    by_cases g1 : b2 w = 0
    · rw [if_pos g1]
      by_cases g2 : l1 = 0
      · rw [if_pos g2]; exact fin 0
      · rw [if_neg g2]; exact fin 1
    · rw [if_neg g1]; exact fin 1
theorem lq_194r (P : HWp T L b H) (hQ : WOK H Q) (hcl : ∀ e, e ∈ Q → ∀ i, i < fldT T L (H.2 e.1).1 → hopN T L H e.1 i = 0 ∨ inW Q (hopN T L H e.1 i)) : ∀ (r k m : Nat) (l1 : Int32) (s : mjSt3), k + r = 1000000 → r < m → HWc T L q H s → NRc H Q s → ∃ s', L_194_70 (mjF (d + 3)) m 91 l1 (nI k) (mjW0 s) = some (none, mjW0 s') ∧ oWc s s' ∧ (∀ h, ¬ h = 94 → s'.1 h = s.1 h) ∧ NRc H Q s'
  | r, k, 0, l1, s, ek, hr, hW, N9 => by omega
  | 0, k, m + 1, l1, s, ek, hr, hW, N9 => by
    have e : k = 1000000 := by omega
    refine ⟨s, ?_, offG.rf, fun _ _ => rfl, N9⟩
    rw [L194r_S]
    unfold b_194_70
    rw [if_pos (show (1000000 : Int32) ≤ nI k from nI_le (a := 1000000) (by omega) (by omega))]
  | r + 1, k, m + 1, l1, s, ek, hr, hW, N9 => by
    have b1 := P.2.1.1
    have b2' := P.2.1.2
    have ln := hQ.len
    rw [L194r_S]
    unfold b_194_70
    rw [if_neg (show ¬ (1000000 : Int32) ≤ nI k from nI_ge (b := 1000000) (by omega) (by decide))]
    by_cases g : l1 = 0
    · rw [if_pos g]
      exact ⟨s, rfl, offG.rf, fun _ _ => rfl, N9⟩
    · rw [if_neg g]
      obtain ⟨l2, s1, a1, a2, a3, a4⟩ := lq_194q (d := d) (k := k) (L_194_70 (mjF (d + 3)) m) P hQ hcl Q.length 0 mjN 0 s (by omega) (by unfold mjN; omega) hW N9
      obtain ⟨s2, c1, c2, c3, c4⟩ := lq_194r P hQ hcl r (k + 1) m l2 s1 (by omega) (by omega) (hW.ws a2) a4
      exact ⟨s2, a1.trans c1, offG.tr a2 c2, fun h hh => by rw [c3 h hh, a3 h hh], c4⟩
/-- ranks -/
theorem lq_194k (P : HWp T L b H) (hQ : WOK H Q) (hcl : ∀ e, e ∈ Q → ∀ i, i < fldT T L (H.2 e.1).1 → hopN T L H e.1 i = 0 ∨ inW Q (hopN T L H e.1 i)) : ∀ (r i m : Nat) (s : mjSt3), i + r = Q.length → r < m → HWc T L q H s → NRc H Q s → ∃ s', L_194_38 (mjF (d + 3)) m 91 (nI i) (mjW0 s) = some (none, mjW0 s') ∧ oWc s s' ∧ (∀ h, ¬ (h = 94 ∨ h = 95) → s'.1 h = s.1 h) ∧ NRc H Q s'
  | r, i, 0, s, ei, hr, hW, N9 => by omega
  | 0, i, m + 1, s, ei, hr, hW, N9 => by
    have b1 := P.2.1.1
    have b2' := P.2.1.2
    have ln := hQ.len
    obtain ⟨s', a1, a2, a3, a4⟩ := lq_194r (d := d) P hQ hcl 1000000 0 mjN 1 s (by omega) (by unfold mjN; omega) hW N9
    refine ⟨s', ?_, a2, fun h hh => a3 h (by omega), a4⟩
    rw [L194k_S]
    unfold b_194_38
    rw [xg_91_3, N9.1, if_pos (nI_le (by omega) (by omega))]
    exact a1
  | r + 1, i, m + 1, s, ei, hr, hW, N9 => by
    have b1 := P.2.1.1
    have b2' := P.2.1.2
    have ln := hQ.len
    obtain ⟨e, he⟩ : ∃ e, Q[i]? = some e := ⟨_, List.getElem?_eq_getElem (by omega)⟩
    obtain ⟨e1, e2⟩ := hQ.2.1 e (List.mem_of_getElem? he)
    obtain ⟨z1, g1⟩ : ∃ y, y = uI s 95 (upd (s.1 95) e.1 (nI (i + 1))) := ⟨_, rfl⟩
    have o1 : oWc s z1 := by rw [g1]; exact oWc.w (by omega)
    have r1 : ∀ h, ¬ h = 95 → z1.1 h = s.1 h := fun h e => by rw [g1, uI_ne _ _ _ _ e]
    obtain ⟨s', a1, a2, a3, a4⟩ := lq_194k P hQ hcl r (i + 1) m z1 (by omega) (by omega) (hW.ws o1) (by
      unfold NRc at N9 ⊢
      rw [r1 91 (by decide), r1 92 (by decide), r1 94 (by decide)]
      exact N9)
    refine ⟨s', ?_, offG.tr o1 a2, fun h hh => by rw [a3 h hh, r1 h (by omega)], a4⟩
    rw [L194k_S]
    unfold b_194_38
    rw [xg_91_3, N9.1, if_neg (nI_ge (by omega) (by omega)), xg_91_7, xg_91_2, wa_92 (by omega), N9.2.1 i e he, nI_1, ws_95 (by omega), ← g1]
    exact a1
/-- findNearest -/
theorem x_194 (P : HWp T L b H) (hW : HWc T L q H s) (W : WCr H (walkR T L H 0) s) (hQ : WOK H (walkR T L H 0)) : ∃ s', mjF (d + 4) 194 [.ref 91] (mjW0 s) = some (none, mjW0 s') ∧ oWc s s' ∧ (∀ h, ¬ (h = 94 ∨ h = 95) → s'.1 h = s.1 h) ∧ NRc H (walkR T L H 0) s' := by
  have b1 := P.2.1.1
  have b2' := P.2.1.2
  have ln := hQ.len
  obtain ⟨z1, g1⟩ : ∃ y, y = uI s 94 (va_cpy (s.1 93) (s.1 94) 0 0 (H.1 + 1)) := ⟨_, rfl⟩
  obtain ⟨z2, g2⟩ : ∃ y, y = uI z1 94 (upd (z1.1 94) 0 (nI 0)) := ⟨_, rfl⟩
  obtain ⟨z3, g3⟩ : ∃ y, y = uI z2 95 (upd (z2.1 95) 0 (nI 0)) := ⟨_, rfl⟩
  have o3 : oWc s z3 := offG.tr (b := z1) (by rw [g1]; exact oWc.w (by omega)) (offG.tr (b := z2) (by rw [g2]; exact oWc.w (by omega)) (by rw [g3]; exact oWc.w (by omega)))
  have r3 : ∀ h, ¬ (h = 94 ∨ h = 95) → z3.1 h = s.1 h := fun h e => by rw [g3, uI_ne _ _ _ _ (by omega), g2, uI_ne _ _ _ _ (by omega), g1, uI_ne _ _ _ _ (by omega)]
  have v3 : ∀ j, j ≤ H.1 → z3.1 94 j = if j = 0 then nI 0 else s.1 93 j := fun j hj => by
    rw [g3, uI_ne _ _ _ _ (by decide), g2, uI_same, upd_g]
    by_cases e : j = 0
    · rw [if_pos e, if_pos e]
    · rw [if_neg e, if_neg e, g1, uI_same]
      show (if 0 ≤ j ∧ j < 0 + (H.1 + 1) then s.1 93 (0 + (j - 0)) else s.1 94 j) = s.1 93 j
      rw [if_pos ⟨Nat.zero_le _, by omega⟩, show 0 + (j - 0) = j by omega]
  have N3 : NRc H (walkR T L H 0) z3 := by
    refine ⟨by rw [r3 91 (by omega)]; exact W.1, fun k e he => by rw [r3 92 (by omega)]; exact W.2.1 k e he, by rw [v3 0 (Nat.zero_le _), if_pos rfl], fun x ⟨y, y1, y2⟩ => ?_, fun o o1 o2 hn => by rw [v3 o o2, if_neg (by omega)]; exact W.2.2.2 o o2 hn⟩
    obtain ⟨yr1, yr2⟩ := hQ.2.1 y y1
    refine ⟨y.2.1, ?_, by rw [v3 x (by omega), if_neg (by omega), ← y2]; exact W.2.2.1 y y1⟩
    obtain ⟨k, hk⟩ := List.getElem?_of_mem y1
    rcases hQ.2.2 k y hk with h | ⟨_, _, p, p1, p2, _⟩
    · exact Or.inl h.1
    · exact Or.inr ⟨p, List.mem_of_getElem? p1, p2⟩
  have hcl : ∀ e, e ∈ walkR T L H 0 → ∀ i, i < fldT T L (H.2 e.1).1 → hopN T L H e.1 i = 0 ∨ inW (walkR T L H 0) (hopN T L H e.1 i) := fun e he i hi => by
    rcases walkR_cl P (Nat.zero_le _) he hi with h | h | h
    · exact Or.inl h
    · exact Or.inl h
    · exact Or.inr h
  obtain ⟨s', a1, a2, a3, a4⟩ := lq_194k (d := d) P hQ hcl (walkR T L H 0).length 0 mjN z3 (by omega) (by unfold mjN; omega) (hW.ws o3) N3
  refine ⟨s', ?_, offG.tr o3 a2, fun h hh => by rw [a3 h hh, r3 h hh], a4⟩
  rw [e_194]
  unfold f_194 b_194_0
  rw [xg_91_4, xg_91_6, xg_91_0, xg_79_2, hW.2.1, nI_1, cp_94 (by omega), ← g1, xg_91_6, show sI (mjW0 z1) 94 (0 : Int32) 0 = sI (mjW0 z1) 94 (nI 0) (nI 0) from rfl, ws_94 (show 0 < 1335 by decide), ← g2, xg_91_7, show sI (mjW0 z2) 95 (0 : Int32) 0 = sI (mjW0 z2) 95 (nI 0) (nI 0) from rfl, ws_95 (show 0 < 1335 by decide), ← g3]
  exact a1
theorem NRc.kn (N9 : NRc H Q s) (hQ : WOK H Q) : ∀ o, o ≤ H.1 → s.1 94 o = -1 ∨ ∃ a, a ≤ H.1 ∧ s.1 94 o = nI a := by
  intro o o2
  by_cases h0 : o = 0
  · rw [h0]; exact Or.inr ⟨0, Nat.zero_le _, N9.2.2.1⟩
  · by_cases g : inW Q o
    · obtain ⟨a, a1, a2⟩ := N9.2.2.2.1 o g
      exact Or.inr ⟨a, a1.le hQ, a2⟩
    · exact Or.inl (N9.2.2.2.2 o (by omega) o2 g)
theorem L193_S (R : mjR) (n a : Nat) (x : Int32) (hp : mjH) : L_193_30 R (n + 1) a x hp = b_193_30 R (L_193_30 R n) a x hp := rfl
/-- the LEAKS -/
theorem lq_193 (P : HWp T L b H) : ∀ (r o m t : Nat) (s : mjSt3), o + r = H.1 + 1 → 1 ≤ o → r < m → t < o → HWc T L q H s → s.1 91 5 = 1 → s.1 91 9 = nI t → (∀ o, o ≤ H.1 → s.1 94 o = -1 ∨ ∃ a, a ≤ H.1 ∧ s.1 94 o = nI a) → ∃ s', L_193_30 (mjF (d + 2)) m 91 (nI o) (mjW0 s) = some (none, mjW0 s') ∧ oWc s s' ∧ s'.1 91 5 = 1 ∧ (∃ t', t' ≤ H.1 ∧ s'.1 91 9 = nI t') ∧ s'.1 94 = s.1 94
  | r, o, 0, t, s, eo, o1, hm, ht, hW, h5, h9, N9 => by omega
  | 0, o, m + 1, t, s, eo, o1, hm, ht, hW, h5, h9, N9 => by
    have b1 := P.2.1.1
    have b2' := P.2.1.2
    refine ⟨s, ?_, offG.rf, h5, ⟨t, by omega, h9⟩, rfl⟩
    rw [L193_S]
    unfold b_193_30
    rw [xg_91_0, xg_79_2, hW.2.1, if_pos (nI_lt (by omega) (by omega))]
  | r + 1, o, m + 1, t, s, eo, o1, hm, ht, hW, h5, h9, N9 => by
    have b1 := P.2.1.1
    have b2' := P.2.1.2
    obtain ⟨v, x197⟩ := x_197 (d := d) P hW N9 o1 (by omega)
    rw [L193_S]
    unfold b_193_30 b_193_69
    rw [xg_91_0, xg_79_2, hW.2.1, if_neg (nI_nlt (by omega) (by omega)), xV_91, x197, bI_s, nI_1]
    cases v with
    | false =>
      rw [if_pos (show b2 false = 0 from rfl)]
      exact lq_193 P r (o + 1) m t s (by omega) (by omega) (by omega) (by omega) hW h5 h9 N9
    | true =>
      obtain ⟨z1, g1⟩ : ∃ y, y = uI s 96 (upd (s.1 96) t (nI o)) := ⟨_, rfl⟩
      obtain ⟨z2, g2⟩ : ∃ y, y = uI z1 91 (upd (z1.1 91) 9 (nI (t + 1))) := ⟨_, rfl⟩
      have c1 : z1.1 91 9 = nI t := by rw [g1, uI_ne _ _ _ _ (by decide)]; exact h9
      have o2' : oWc s z2 := offG.tr (b := z1) (by rw [g1]; exact oWc.w (by omega)) (by rw [g2]; exact oWc.w (by omega))
      have e94 : z2.1 94 = s.1 94 := by rw [g2, uI_ne _ _ _ _ (by decide), g1, uI_ne _ _ _ _ (by decide)]
      obtain ⟨s', a1, a2, a3, a4, a5⟩ := lq_193 P r (o + 1) m (t + 1) z2 (by omega) (by omega) (by omega) (by omega) (hW.ws o2') (by rw [g2, uI_same, upd_g, if_neg (by decide), g1, uI_ne _ _ _ _ (by decide)]; exact h5) (by rw [g2, uI_same, upd_g, if_pos rfl]) (by rw [e94]; exact N9)
      refine ⟨s', ?_, offG.tr o2' a2, a3, a4, by rw [a5, e94]⟩
      rw [if_neg (show ¬ b2 true = 0 by decide), xg_91_8, xg_91_9, h9, ws_96 (by omega), ← g1, xg_91_9, c1, nI_1, xp_91_9, ← g2]
      exact a1
/-- learn -/
theorem x_193 (P : HWp T L b H) (hW : HWc T L q H s) (K : KNc H.1 s) : ∃ s', mjF (d + 5) 193 [.ref 91] (mjW0 s) = some (none, mjW0 s') ∧ oWc s s' ∧ s'.1 91 5 = 1 ∧ (∃ t, t ≤ H.1 ∧ s'.1 91 9 = nI t) ∧ ∀ o, o ≤ H.1 → s'.1 94 o = -1 ∨ ∃ a, a ≤ H.1 ∧ s'.1 94 o = nI a := by
  have b1 := P.2.1.1
  have b2' := P.2.1.2
  rcases K with h0 | ⟨h1, h2, h3⟩
  · obtain ⟨z1, g1⟩ : ∃ y, y = uI s 91 (upd (s.1 91) 5 1) := ⟨_, rfl⟩
    have o1 : oWc s z1 := by rw [g1]; exact oWc.w (by omega)
    obtain ⟨s2, a1, a2, a3, a4⟩ := x_186R (d := d) (sh := 0) P (Nat.zero_le _) (hW.ws o1)
    have a1' : mjF (d + 4) 186 [.ref 91, .int 0, .int 0] (mjW0 z1) = some (none, mjW0 s2) := a1
    have hW2 := (hW.ws o1).ws a2.toC
    obtain ⟨s3, c1, c2, c3, c4⟩ := x_194 (d := d) P hW2 a3 a4
    obtain ⟨z4, g4⟩ : ∃ y, y = uI s3 91 (upd (s3.1 91) 9 0) := ⟨_, rfl⟩
    have o4 : oWc s3 z4 := by rw [g4]; exact oWc.w (by omega)
    have e94 : z4.1 94 = s3.1 94 := by rw [g4, uI_ne _ _ _ _ (by decide)]
    have h5 : z4.1 91 5 = 1 := by
      rw [g4, uI_same, upd_g, if_neg (by decide), c3 91 (by omega), a2.1 91 5 (by omega), g1, uI_same, upd_g, if_pos rfl]
    obtain ⟨s5, k1, k2, k3, k4, k5⟩ := lq_193 (d := d + 2) P H.1 1 mjN 0 z4 (by omega) (by omega) (by unfold mjN; omega) (by omega) ((hW2.ws c2).ws o4) h5 (by rw [g4, uI_same, upd_g, if_pos rfl]; rfl) (by rw [e94]; exact c4.kn a4)
    refine ⟨s5, ?_, offG.tr o1 (offG.tr a2.toC (offG.tr c2 (offG.tr o4 k2))), k3, k4, by rw [k5, e94]; exact c4.kn a4⟩
    rw [e_193]
    unfold f_193 b_193_0
    rw [xg_91_5, h0, if_pos rfl, xp_91_5 (by decide), ← g1, xV_91, a1', bN_s, xV_91, c1, bN_s, xp_91_9, ← g4]
    exact k1
  · refine ⟨s, ?_, offG.rf, h1, h2, h3⟩
    rw [e_193]
    unfold f_193 b_193_0
    rw [xg_91_5, h1, if_neg (show ¬ ((1 : Int32) = 0) by decide)]
end MJB97
end
section
/-! ===== way, above, leaks, leak, past, on both ===== -/
section MJB98
variable {T : TT} {d N b kb q i o c m n wm cm k k' : Nat} {t : PT} {L : List CD} {rs : List RcM} {z : PB} {tr : Bool} {cs : Nat → Nat} {H : HEAP} {A : AMS} {Q : WQ} {s s' s1 s2 : mjSt3} {a v : Int32} {e e' : Nat × Nat × Nat × Nat}
theorem WOK.one (hQ : WOK H Q) (h1 : Q[k]? = some e) (h2 : Q[k']? = some e') (he : e.1 = e'.1) : e = e' := by
  have nd := hQ.1
  have l1 := (List.getElem?_eq_some_iff.mp h1).1
  have l2 := (List.getElem?_eq_some_iff.mp h2).1
  have m1 : (Q.map (fun e => e.1))[k]? = some e.1 := by rw [List.getElem?_map, h1]; rfl
  have m2 : (Q.map (fun e => e.1))[k']? = some e'.1 := by rw [List.getElem?_map, h2]; rfl
  have ek : k = k' := by
    exact (List.getElem?_inj (by rw [List.length_map]; exact l1) nd).mp (by rw [m1, m2, he])
  rw [ek, h2] at h1
  exact (Option.some.inj h1).symm
theorem walkO_ok (P : HWp T L b H) (o1 : 1 ≤ o) (o2 : o ≤ H.1) : WOK H (walkO T L H o) := (cls_go (Nat.zero_le _) P (H.1 + 1) 0 [(o, 0, 0, 0)] (by omega) (WOK.nil.come (Q := []) (fo := 0) (fi := 0) (d := 0) o1 o2 (Or.inl ⟨rfl, rfl⟩)) (fun j y hj _ => absurd hj (Nat.not_lt_zero j))).2.1
theorem IRN.hwp (G : IPG T N b q t rs kb z tr cs s) (R : IRN i T b q t rs z tr cs wm cm A s) : HWp T t.1 b A.1 := by
  have hn := G.2.1.1.1.1.1
  exact ⟨R.2.2.1.1.1, R.hb G, G.1.1, hn.1, fun c hc => vK.n5 hn hc, G.2.1.2.2.1⟩
theorem IRN.hwr (G : IPG T N b q t rs kb z tr cs s) (R : IRN i T b q t rs z tr cs wm cm A s) : HWr T t.1 b A.1 s := by
  obtain ⟨_, rf, _, _, r184⟩ := G.ref
  have PGs := G.2.2.2.1
  have g13 := PGs.2.2.2.2.1
  have g16 := PGs.2.2.2.2.2.2.1
  have Ac := G.2.1.1.1.1
  have hh : ∀ m, m < nMem t.1 → hmM t.1 m < t.1.length := fun m hm => (g16 m hm).2.1
  refine ⟨R.2.2.2.2.1.2.1, R.2.2.2.2.1.1.2.2.1.2.1, fun c hc => ⟨(rf c hc).1, (rf c hc).2.2.2.1⟩, fun c hc i hi => ?_⟩
  obtain ⟨m, m1, m2, m3, m4⟩ := fld_ex Ac (fun c hc => (g13 c hc).2.2.2.2.2) hc hi
  rw [← m4, r184 c hc m m1 m2 m3, ob_at Ac hh hc m1 m2 m3]
theorem IRN.hwc (G : IPG T N b q t rs kb z tr cs s) (R : IRN i T b q t rs z tr cs wm cm A s) : HWc T t.1 q A.1 s := by
  have PGs := G.2.2.2.1
  exact ⟨R.2.2.2.1.2.1, R.2.2.2.1.1.2.2.1.2.1, R.2.2.2.2.2.1.2.2, fun _ => ⟨PGs.1.1, PGs.2.2.1.1, PGs.2.2.2.1.2⟩⟩
theorem HWr.lo (h : HWr T L b H s) (e : ∀ h, 97 ≤ h → s'.1 h = s.1 h) : HWr T L b H s' := by
  obtain ⟨h1, h2, h3, h4⟩ := h
  exact ⟨h1.keep (fun x hx => e x (by omega)), by rw [e 97 (by omega)]; exact h2, fun c hc => by rw [e 104 (by omega), e 109 (by omega)]; exact h3 c hc, fun c hc i hi => by rw [e 184 (by omega)]; exact h4 c hc i hi⟩
/-- no OBJECTS -/
theorem IZ.hwc (h : IZ s) : ∃ (T : TT) (H : HEAP), HWc T [] (s.2.2 91 1) H s ∧ HWp T [] 0 H ∧ H.1 = 0 := by
  refine ⟨fun _ => (0, 0, 0, 0), (0, fun _ => (0, fun _ => 0, fun _ => 0)), ⟨fun o o1 o2 => ?_, h.2.2.1.1, rfl, fun x => ?_⟩, ⟨fun o o1 o2 => ?_, ⟨Nat.zero_le _, Nat.le_refl _⟩, Nat.zero_le _, Nat.zero_le _, fun c hc => absurd hc (Nat.not_lt_zero c), fun c => Nat.zero_le _⟩, rfl⟩
  · have o2' : o ≤ 0 := o2
    omega
  · have x' : 1 ≤ 0 := x
    omega
  · have o2' : o ≤ 0 := o2
    omega
/-- behind the class's walker and the reference's -/
theorem Inv.wkR (hB : IBs s) (G : IPG T N b q t rs kb z tr cs s) (R : IRN i T b q t rs z tr cs wm cm A s) (o1 : oWc s s1) (K1 : KNc A.1.1 s1) (o2 : oWl s1 s2) (K2 : KNm T t.1 A.1 s2) : Inv (i + 1) s2 := by
  have hq := G.isq
  have f1 : ∀ h, ¬ (91 ≤ h ∧ h ≤ 96) → s1.1 h = s.1 h := fun h e => funext fun j => o1.1 h j e
  have f2 : ∀ h, h < 97 ∨ h = 98 ∨ (99 ≤ h ∧ h ≤ 176) ∨ h = 184 → s2.1 h = s1.1 h := fun h e => funext fun j => o2.1 h j (by omega)
  have u2 : ∀ j, ¬ (j = 124 ∨ j = 126 ∨ j = 127) → s2.1 97 j = s1.1 97 j := fun j e => o2.1 97 j (by omega)
  have l2 : s2.2 = s.2 := (Prod.ext (funext fun h => funext fun j => o2.2.1 h j (fun x => x)) o2.2.2).trans (Prod.ext (funext fun h => funext fun j => o1.2.1 h j (fun x => x)) o1.2.2)
  have g : ∀ h, ¬ (91 ≤ h ∧ h ≤ 96) → (h < 97 ∨ h = 98 ∨ (99 ≤ h ∧ h ≤ 176) ∨ h = 184) → s2.1 h = s.1 h := fun h e e' => by rw [f2 h e', f1 h e]
  have u : ∀ j, ¬ (j = 124 ∨ j = 126 ∨ j = 127) → s2.1 97 j = s.1 97 j := fun j e => by rw [u2 j e, f1 97 (by omega)]
  obtain ⟨w4, ⟨p1, p2, p3, p4⟩, k1, M, Mr, x1, _, _⟩ := R
  refine ⟨hB.keep (by rw [g 0 (by omega) (by omega)]) (g 1 (by omega) (by omega)) ⟨u 1 (by omega), u 9 (by omega)⟩ (g 98 (by omega) (by omega)) ⟨by rw [l2], by rw [l2]⟩ (by rw [l2]) (by rw [l2]; exact hB.2.2.2.2.2), Or.inr ⟨T, N, b, q, t, rs, kb, z, tr, cs, G.keep ⟨u 9 (by omega), u 10 (by omega)⟩ ⟨by rw [l2], by rw [g 0 (by omega) (by omega)]⟩ (fun J => J.keep (fun x y w => by have := inB_nr w; rw [g x (by omega) (by omega)]) (fun x y _ => by rw [l2])) (fun x hx => g x (by omega) (by omega)) (fun x _ => by rw [l2]), Or.inr ⟨wm, cm, A, w4, ⟨p1, p2, p3, by omega⟩, k1, M.hi (fun h e => g h (by omega) (by omega)), (Mr.lo (fun h e => f1 h (by omega))).wk u2 (fun h e => f2 h (by omega)), by rw [l2]; exact x1, K1.keep (fun h e => f2 h (by omega)), K2⟩⟩⟩
theorem Inv.wkZ (I : Inv i s) (hz : IZ s) (o1 : oWc s s1) (K1 : KNc 0 s1) : Inv (i + 1) s1 := by
  have f1 : ∀ h, ¬ (91 ≤ h ∧ h ≤ 96) → s1.1 h = s.1 h := fun h e => funext fun j => o1.1 h j e
  have l1 : s1.2 = s.2 := Prod.ext (funext fun h => funext fun j => o1.2.1 h j (fun x => x)) o1.2.2
  have hz1 : IZ s1 := by
    obtain ⟨a1, a2, a3, a4, _⟩ := hz
    exact ⟨by rw [f1 97 (by omega), f1 82 (by omega)]; exact a1, by rw [f1 82 (by omega)]; exact a2, by rw [f1 79 (by omega)]; exact a3, by rw [f1 83 (by omega)]; exact a4, K1⟩
  have hB : IBs s1 := I.1.keep (by rw [f1 0 (by omega)]) (f1 1 (by omega)) ⟨by rw [f1 97 (by omega)], by rw [f1 97 (by omega)]⟩ (f1 98 (by omega)) ⟨by rw [l1], by rw [l1]⟩ (by rw [l1]) (by rw [l1]; exact I.1.2.2.2.2.2)
  refine ⟨hB, ?_⟩
  rcases I.2 with ⟨b1, b2', _⟩ | ⟨T, N, b, q, t, rs, kb, z, tr, cs, G, _⟩
  · exact Or.inl ⟨by rw [f1 0 (by omega)]; exact b1, by rw [f1 97 (by omega)]; exact b2', hz1⟩
  · have hq := G.isq
    exact Or.inr ⟨T, N, b, q, t, rs, kb, z, tr, cs, G.keep ⟨by rw [f1 97 (by omega)], by rw [f1 97 (by omega)]⟩ ⟨by rw [l1], by rw [f1 0 (by omega)]⟩ (fun J => J.lo (fun h e => f1 h (by omega)) (fun h _ => by rw [l1])) (fun x hx => f1 x (by omega)) (fun x _ => by rw [l1]), Or.inl hz1⟩
theorem oWs.kn (o : oWs s s') (K : KNc n s) : KNc n s' := by
  unfold KNc
  rw [o.1 91 5 (by omega), o.1 91 9 (by omega), show s'.1 94 = s.1 94 from funext fun j => o.1 94 j (by omega)]
  exact K
theorem h246_wl (G : IPG T N b q t rs kb z tr cs s) (R : IRN i T b q t rs z tr cs wm cm A s) (e : ∀ h, 97 ≤ h → s1.1 h = s.1 h) : ∀ (d x : Nat) (s' : mjSt3), 1 ≤ x → x ≤ A.1.1 → oWl s1 s' → mjF (d + 1) 246 [.ref 97, .int (nI x)] (mjW0 s') = some (some (.int 1), mjW0 s') := by
  intro d x s' x1 x2 o
  have B := R.hb G
  have b1 := B.1
  have b2' := B.2
  have r103 : s'.1 97 103 = nI A.1.1 := by rw [o.1 97 103 (by omega), e 97 (by omega)]; exact R.2.2.2.2.1.1.2.2.1.2.1
  have r96 : s'.1 97 96 = nI A.2.2.2.2.2.2.2.2.1 := by rw [o.1 97 96 (by omega), e 97 (by omega)]; exact R.2.2.2.2.1.1.1.1
  have p1 := R.2.1.1
  have p3 := R.2.1.2.1
  rw [x_246g, r103, r96, if_neg]
  rintro (h | h | h)
  · exact nI_nle (by omega) (by omega) h
  · exact nI_nlt (b := 1) x1 (by omega) h
  · exact nI_nlt x2 (by omega) h
theorem pair_way (I : Inv i s) (a v : Int32) : PairOK (Inv (i + 1)) 220 245 [.int a, .int v] s := by
  have J : Inv (i + 1) s := I.mono (by omega)
  rcases I.obj a with ⟨c43, r246⟩ | ⟨T, N, b, q, t, rs, kb, z, tr, cs, wm, cm, A, o, G, R, B, eo, o1, o2, c43, r246⟩
  · refine ⟨-1, s, s, ?_, ?_, J⟩
    · rw [e_220 (d := 1998)]
      unfold f_220 b_220_0 b_220_34
      rw [xg_0_11, xV_79, c43 1997, bI_s, if_pos rfl]
    · rw [e_245 (d := 1998)]
      unfold f_245 b_245_0 b_245_16
      rw [xV_97, r246 1997, bI_s, if_pos rfl]
  · rcases R.obj G v with ⟨d43, d246⟩ | ⟨c, ec, hc1, hc2, d43, d246⟩
    · refine ⟨-1, s, s, ?_, ?_, J⟩
      · rw [e_220 (d := 1998)]
        unfold f_220 b_220_0 b_220_34
        rw [xg_0_11, xV_79, c43 1997, bI_s, if_neg (show ¬ ((1 : Int32) = 0) by decide), xg_0_11, xV_79, d43 1997, bI_s, if_pos rfl]
      · rw [e_245 (d := 1998)]
        unfold f_245 b_245_0 b_245_16
        rw [xV_97, r246 1997, bI_s, if_neg (show ¬ ((1 : Int32) = 0) by decide), xV_97, d246 1997, bI_s, if_pos rfl]
    · have P := R.hwp G
      obtain ⟨s1, w1, x1, x2, x3⟩ := x_185 (d := 1993) (c := c) P (R.hwc G) o1 o2 hc2
      have f1 : ∀ h, 97 ≤ h → s1.1 h = s.1 h := fun h e => funext fun j => x2.1 h j (by omega)
      obtain ⟨s2, w2, y1, y2, y3, y4, y5, y6⟩ := x_245 (d := 1996) P ((R.hwr G).lo f1) o1 o2 hc1 hc2 (h246_wl G R f1)
      have ew : w1 = w2 := by
        have hok := walkO_ok (T := T) (L := t.1) P o1 o2
        rcases x3 with ⟨x4, x5⟩ | ⟨k1, e1, x4, x5, x6⟩
        · rcases y6 with ⟨y7, y8⟩ | ⟨k2, e2, y7, y8, y9⟩
          · rw [x4, y7]
          · exact absurd ⟨e2, List.mem_of_getElem? y7, y8⟩ x5
        · rcases y6 with ⟨y7, y8⟩ | ⟨k2, e2, y7, y8, y9⟩
          · exact absurd ⟨e1, List.mem_of_getElem? x4, x5⟩ y8
          · rw [x6, y9, hok.one x4 y7 (by rw [x5, y8])]
      have K2 : KNm T t.1 A.1 s2 := (R.2.2.2.2.2.2.2).gen ⟨by rw [y3, f1 97 (by omega)], by rw [y4, f1 97 (by omega)]⟩ (by rw [y5, f1 181 (by omega)])
      refine ⟨w1, s1, s2, ?_, ?_, Inv.wkR I.1 G R x2.toC (x2.kn R.2.2.2.2.2.2.1) y2 K2⟩
      · rw [e_220 (d := 1998)]
        unfold f_220 b_220_0 b_220_34
        rw [xg_0_11, xV_79, c43 1997, bI_s, if_neg (show ¬ ((1 : Int32) = 0) by decide), xg_0_11, xV_79, d43 1997, bI_s, if_neg (show ¬ ((1 : Int32) = 0) by decide), xg_0_13, xV_91, eo, ec, x1, bI_s]
      · rw [ew, eo, ec]
        exact y1
theorem pair_above (I : Inv i s) (a : Int32) : PairGo (Inv (i + 1)) 221 257 [.int a] s := by
  have J : Inv (i + 1) s := I.mono (by omega)
  rcases I.obj a with ⟨c43, r246⟩ | ⟨T, N, b, q, t, rs, kb, z, tr, cs, wm, cm, A, o, G, R, B, eo, o1, o2, c43, r246⟩
  · refine ⟨-1, -1, s, s, ?_, ?_, J⟩
    · rw [e_221 (d := 1998)]
      unfold f_221 b_221_0
      rw [xg_0_11, xV_79, c43 1997, bI_s, if_pos rfl]
    · rw [e_257 (d := 1998)]
      unfold f_257 b_257_0
      rw [xV_97, r246 1997, bI_s, if_pos rfl]
  · have P := R.hwp G
    have b1 := B.1
    have b2' := B.2
    obtain ⟨s1, x1, x2, x3, x4, x5⟩ := x_193 (d := 1992) P (R.hwc G) R.2.2.2.2.2.2.1
    have f1 : ∀ h, 97 ≤ h → s1.1 h = s.1 h := fun h e => funext fun j => x2.1 h j (by omega)
    obtain ⟨s2, w2, y1, y2, y3, y4, y5, _⟩ := x_257 (d := 1995) P ((R.hwr G).lo f1) o1 o2 (fun d => h246_wl G R f1 d o s1 o1 o2 offG.rf)
    have K2 : KNm T t.1 A.1 s2 := (R.2.2.2.2.2.2.2).gen ⟨by rw [y3, f1 97 (by omega)], by rw [y4, f1 97 (by omega)]⟩ (by rw [y5, f1 181 (by omega)])
    refine ⟨s1.1 94 o, w2, s1, s2, ?_, by rw [eo]; exact y1, Inv.wkR I.1 G R x2 (Or.inr ⟨x3, x4, x5⟩) y2 K2⟩
    have x192 : mjF 1998 192 [.ref 91, .int (nI o)] (mjW0 s) = some (some (.int (s1.1 94 o)), mjW0 s1) := by
      rw [e_192 (d := 1997)]
      unfold f_192 b_192_0
      rw [xV_91, x1, bN_s, xg_91_6, wa_94 (by omega)]
    have c43' := c43 1997
    rw [eo] at c43' ⊢
    rw [e_221 (d := 1998)]
    unfold f_221 b_221_0
    rw [xg_0_11, xV_79, c43', bI_s, if_neg (show ¬ ((1 : Int32) = 0) by decide), xg_0_13, xV_91, x192, bI_s]
/-- a RUN, or none -/
theorem Inv.run (I : Inv i s) : IZ s ∨ ∃ T N b q t rs kb z tr cs wm cm A, IPG T N b q t rs kb z tr cs s ∧ IRN i T b q t rs z tr cs wm cm A s := by
  rcases I.2 with ⟨_, _, h⟩ | ⟨T, N, b, q, t, rs, kb, z, tr, cs, G, hR⟩
  · exact Or.inl h
  · rcases hR with h | ⟨wm, cm, A, R⟩
    · exact Or.inl h
    · exact Or.inr ⟨T, N, b, q, t, rs, kb, z, tr, cs, wm, cm, A, G, R⟩
theorem IRN.n96 (R : IRN i T b q t rs z tr cs wm cm A s) (e : s1.1 97 = s.1 97) : ¬ s1.1 97 96 = 0 := by
  rw [e, show s.1 97 96 = nI A.2.2.2.2.2.2.2.2.1 from R.2.2.2.2.1.1.1.1]
  have p1 := R.2.1.1
  have p3 := R.2.1.2.1
  exact nI_ne0 (by omega) (by omega)
theorem pair_leaks (I : Inv i s) : PairGo (Inv (i + 1)) 222 251 [] s := by
  have fin : ∀ s1, mjF 1997 193 [.ref 91] (mjW0 s) = some (none, mjW0 s1) → mjF 1999 222 [.ref 0] (mjW0 s) = some (some (.int (s1.1 91 9)), mjW0 s1) := by
    intro s1 x1
    rw [e_222 (d := 1998)]
    unfold f_222 b_222_0
    rw [xg_0_13, xV_91, e_198 (d := 1997)]
    unfold f_198 b_198_0
    rw [xV_91, x1, bN_s, xg_91_9, bI_s]
  rcases I.run with hz | ⟨T, N, b, q, t, rs, kb, z, tr, cs, wm, cm, A, G, R⟩
  · obtain ⟨T, H, hW, P, h0⟩ := hz.hwc
    obtain ⟨s1, x1, x2, x3, x4, x5⟩ := x_193 (d := 1992) P hW (by rw [h0]; exact hz.2.2.2.2)
    rw [h0] at x4 x5
    refine ⟨s1.1 91 9, 0, s1, s1, fin s1 x1, ?_, I.wkZ hz x2 (Or.inr ⟨x3, x4, x5⟩)⟩
    rw [e_251 (d := 1998)]
    unfold f_251 b_251_0
    rw [xg_97_96, show s1.1 97 = s.1 97 from funext fun j => x2.1 97 j (by omega), hz.1.1, if_pos rfl]
  · have P := R.hwp G
    obtain ⟨s1, x1, x2, x3, x4, x5⟩ := x_193 (d := 1992) P (R.hwc G) R.2.2.2.2.2.2.1
    have f1 : ∀ h, 97 ≤ h → s1.1 h = s.1 h := fun h e => funext fun j => x2.1 h j (by omega)
    have K0 : KNm T t.1 A.1 s1 := (R.2.2.2.2.2.2.2).gen ⟨by rw [f1 97 (by omega)], by rw [f1 97 (by omega)]⟩ (f1 181 (by omega))
    obtain ⟨s2, y1, y2, y3⟩ := x_251 (d := 1994) P ((R.hwr G).lo f1) K0 (R.n96 (f1 97 (by omega)))
    exact ⟨_, _, s1, s2, fin s1 x1, y1, Inv.wkR I.1 G R x2 (Or.inr ⟨x3, x4, x5⟩) y2 y3⟩
theorem pair_leak (I : Inv i s) (a : Int32) : PairGo (Inv (i + 1)) 223 255 [.int a] s := by
  have fin : ∀ s1 n, n ≤ 1334 → mjF 1997 193 [.ref 91] (mjW0 s) = some (none, mjW0 s1) → (∃ t, t ≤ n ∧ s1.1 91 9 = nI t) → ∃ r, mjF 1999 223 [.ref 0, .int a] (mjW0 s) = some (some (.int r), mjW0 s1) := by
    intro s1 n hn x1 ⟨t, t1, t2⟩
    have pre : mjF 1999 223 [.ref 0, .int a] (mjW0 s) = bI (if a < 0 then some (some (.int (-1)), mjW0 s1) else (if nI t ≤ a then some (some (.int (-1)), mjW0 s1) else gR (mjW0 s1) 91 10 8 (fun v3 => aI (mjW0 s1) v3 a (fun v4 => some (some (.int v4), mjW0 s1))))) (fun v2 hp3 => some (some (.int v2), hp3)) := by
      rw [e_223 (d := 1998)]
      unfold f_223 b_223_0
      rw [xg_0_13, xV_91, e_199 (d := 1997)]
      unfold f_199 b_199_0 b_199_25
      rw [xV_91, x1, bN_s, xg_91_9, t2]
    rw [pre]
    by_cases h1 : a < 0
    · rw [if_pos h1]; exact ⟨_, rfl⟩
    · rw [if_neg h1]
      by_cases h2 : nI t ≤ a
      · rw [if_pos h2]; exact ⟨_, rfl⟩
      · obtain ⟨x, x31, ex⟩ := nI_of h1
        have xl : x < t := by
          rw [ex] at h2
          exact (nI_ltI (by omega) (by omega)).mp (Int32.not_le.mp h2)
        rw [if_neg h2, xg_91_8, ex, wa_96 (by omega)]
        exact ⟨_, rfl⟩
  rcases I.run with hz | ⟨T, N, b, q, t, rs, kb, z, tr, cs, wm, cm, A, G, R⟩
  · obtain ⟨T, H, hW, P, h0⟩ := hz.hwc
    obtain ⟨s1, x1, x2, x3, x4, x5⟩ := x_193 (d := 1992) P hW (by rw [h0]; exact hz.2.2.2.2)
    rw [h0] at x4 x5
    obtain ⟨r, hr⟩ := fin s1 0 (by omega) x1 x4
    refine ⟨r, -1, s1, s1, hr, ?_, I.wkZ hz x2 (Or.inr ⟨x3, x4, x5⟩)⟩
    rw [e_255 (d := 1998)]
    unfold f_255 b_255_0 b_255_11
    rw [xg_97_96, show s1.1 97 = s.1 97 from funext fun j => x2.1 97 j (by omega), hz.1.1, if_pos rfl]
  · have P := R.hwp G
    have b1 := P.2.1.1
    have b2' := P.2.1.2
    obtain ⟨s1, x1, x2, x3, x4, x5⟩ := x_193 (d := 1992) P (R.hwc G) R.2.2.2.2.2.2.1
    have f1 : ∀ h, 97 ≤ h → s1.1 h = s.1 h := fun h e => funext fun j => x2.1 h j (by omega)
    have K0 : KNm T t.1 A.1 s1 := (R.2.2.2.2.2.2.2).gen ⟨by rw [f1 97 (by omega)], by rw [f1 97 (by omega)]⟩ (f1 181 (by omega))
    obtain ⟨r, hr⟩ := fin s1 A.1.1 (by omega) x1 x4
    by_cases a0 : 0 ≤ a
    · obtain ⟨s2, y1, y2, y3⟩ := x_255 (d := 1994) P ((R.hwr G).lo f1) K0 (R.n96 (f1 97 (by omega))) a0
      exact ⟨r, _, s1, s2, hr, y1, Inv.wkR I.1 G R x2 (Or.inr ⟨x3, x4, x5⟩) y2 y3⟩
    · refine ⟨r, -1, s1, s1, hr, ?_, Inv.wkR I.1 G R x2 (Or.inr ⟨x3, x4, x5⟩) offG.rf K0⟩
      rw [e_255 (d := 1998)]
      unfold f_255 b_255_0 b_255_11
      rw [xg_97_96, if_neg (R.n96 (f1 97 (by omega))), if_neg a0]
theorem pair_past (I : Inv i s) (a v : Int32) : PairGo (Inv (i + 1)) 224 256 [.int a, .int v] s := by
  have J : Inv (i + 1) s := I.mono (by omega)
  rcases I.obj a with ⟨c43, r246⟩ | ⟨T, N, b, q, t, rs, kb, z, tr, cs, wm, cm, A, o, G, R, B, eo, o1, o2, c43, r246⟩
  · refine ⟨-1, -1, s, s, ?_, ?_, J⟩
    · rw [e_224 (d := 1998)]
      unfold f_224 b_224_0
      rw [xg_0_11, xV_79, c43 1997, bI_s, if_pos rfl]
    · rw [e_256 (d := 1998)]
      unfold f_256 b_256_0 b_256_12
      rw [xV_97, r246 1997, bI_s, if_pos rfl]
  · have P := R.hwp G
    have b1 := P.2.1.1
    have b2' := P.2.1.2
    have ol := (P.1 o o1 o2).2.1 0
    obtain ⟨s1, x1, x2, x3, x4, x5⟩ := x_193 (d := 1992) P (R.hwc G) R.2.2.2.2.2.2.1
    have hW1 := (R.hwc G).ws x2
    obtain ⟨lk, x197⟩ := x_197 (d := 1995) P hW1 x5 o1 o2
    have x49 : mjF 1997 49 [.ref 79, .int (nI o), .int 0] (mjW0 s1) = some (some (.int (nI ((A.1.2 o).2.1 0))), mjW0 s1) := x_49 (d := 1996) (i := 0) hW1.1 P.2.1 o1 o2 (P.n1 o1 o2)
    obtain ⟨s2, y1, y2, y3, y4⟩ := x_186R (d := 1993) (sh := (A.1.2 o).2.1 0) P (by omega) hW1
    have hW2 := hW1.ws y2.toC
    have c43' := c43 1997
    have pre : mjF 1999 224 [.ref 0, .int a, .int v] (mjW0 s) = bI (mjF 1998 200 [.ref 91, .int (nI o), .int v] (mjW0 s)) (fun v5 hp6 => some (some (.int v5), hp6)) := by
      rw [eo] at c43' ⊢
      rw [e_224 (d := 1998)]
      unfold f_224 b_224_0
      rw [xg_0_11, xV_79, c43', bI_s, if_neg (show ¬ ((1 : Int32) = 0) by decide), xg_0_13, xV_91]
    have K1 : KNc A.1.1 s1 := Or.inr ⟨x3, x4, x5⟩
    have cl : ∃ r s3, mjF 1999 224 [.ref 0, .int a, .int v] (mjW0 s) = some (some (.int r), mjW0 s3) ∧ oWc s s3 ∧ KNc A.1.1 s3 := by
      rw [pre, e_200 (d := 1997)]
      unfold f_200 b_200_0 b_200_43
      rw [xV_91, x1, bN_s, xV_91, x197, bI_s]
      cases lk with
      | false =>
        rw [if_pos (show b2 false = 0 from rfl)]
        exact ⟨_, s1, rfl, x2, K1⟩
      | true =>
        have o12 : oWc s s2 := offG.tr x2 y2.toC
        have K2 : KNc A.1.1 s2 := y2.kn K1
        rw [if_neg (show ¬ b2 true = 0 by decide), xg_91_0, xV_79, x49, bI_s, xV_91, y1, bN_s, xV_91]
        by_cases g : inW (walkR T t.1 A.1 ((A.1.2 o).2.1 0)) o
        · obtain ⟨e, e1, e2⟩ := g
          obtain ⟨k, hk⟩ := List.getElem?_of_mem e1
          have ln := y4.len
          have kl := (List.getElem?_eq_some_iff.mp hk).1
          have ds := y4.dist k k e (Nat.le_refl _) hk
          have x191 := x_191 (d := 1996) (by omega) hW2.2.1 y3 y4 hk
          rw [e2] at x191
          rw [x191, bI_s]
          by_cases h1 : v < 0
          · rw [if_pos h1]; exact ⟨_, s2, rfl, o12, K2⟩
          · rw [if_neg h1]
            by_cases h2 : v ≤ nI e.2.2.2
            · obtain ⟨x, x31, ex⟩ := nI_of h1
              have xl : x ≤ e.2.2.2 := by
                rw [ex] at h2
                exact (nI_leI (by omega) (by omega)).mp h2
              have l := lq_200 (x := x) (mjF 1997) (show A.1.1 ≤ 1334 by omega) y3 y4 (by omega) (k + 1) k mjN e (by omega) (by unfold mjN; omega) hk
              rw [e2] at l
              rw [if_pos h2, ex, l]
              exact ⟨_, s2, rfl, o12, K2⟩
            · rw [if_neg h2]; exact ⟨_, s2, rfl, o12, K2⟩
        · rw [x_191n (d := 1996) (by omega) y3 o2 g, bI_s]
          by_cases h1 : v < 0
          · rw [if_pos h1]; exact ⟨_, s2, rfl, o12, K2⟩
          · rw [if_neg h1]
            by_cases h2 : v ≤ 0
            · rw [if_pos h2, show mjN = 99999999 + 1 from rfl, L200_S]
              unfold b_200_51
              rw [if_pos (show (0 : Int32) ≤ v from Int32.not_lt.mp h1)]
              exact ⟨_, s2, rfl, o12, K2⟩
            · rw [if_neg h2]; exact ⟨_, s2, rfl, o12, K2⟩
    obtain ⟨r, s3, z1, z2, z3⟩ := cl
    have f3 : ∀ h, 97 ≤ h → s3.1 h = s.1 h := fun h e => funext fun j => z2.1 h j (by omega)
    have K0 : KNm T t.1 A.1 s3 := (R.2.2.2.2.2.2.2).gen ⟨by rw [f3 97 (by omega)], by rw [f3 97 (by omega)]⟩ (f3 181 (by omega))
    obtain ⟨s4, w2, u1, u2, u3, _⟩ := x_256 (d := 1994) (a := v) P ((R.hwr G).lo f3) K0 o1 o2 (fun d => h246_wl G R f3 d o s3 o1 o2 offG.rf)
    exact ⟨r, w2, s3, s4, z1, by rw [eo]; exact u1, Inv.wkR I.1 G R z2 z3 u2 u3⟩
end MJB98
end
