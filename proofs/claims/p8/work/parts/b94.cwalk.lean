/-! ===== WAYS, the class ===== -/
def WCr (H : HEAP) (Q : WQ) (s : mjSt3) : Prop := s.1 91 3 = nI Q.length ∧ (∀ (k : Nat) (e : Nat × Nat × Nat × Nat), Q[k]? = some e → s.1 92 k = nI e.1) ∧ (∀ e, e ∈ Q → s.1 93 e.1 = nI e.2.1) ∧ ∀ o, o ≤ H.1 → ¬ inW Q o → s.1 93 o = -1
def HWc (T : TT) (L : List CD) (q : Nat) (H : HEAP) (s : mjSt3) : Prop := HPc T L H s ∧ s.1 79 2 = nI H.1 ∧ s.2.2 91 1 = q ∧ (1 ≤ H.1 → isP q ∧ (∀ c, c < L.length → s.1 (q + 8) c = nI (fldT T L c)) ∧ OBr q s L.length (obT T L))
def oWs : mjSt3 → mjSt3 → Prop := offG (fun h j => (h = 91 ∧ j = 3) ∨ h = 92 ∨ h = 93) (fun _ _ => False)
def oWc : mjSt3 → mjSt3 → Prop := offG (fun h _ => 91 ≤ h ∧ h ≤ 96) (fun _ _ => False)
section MJB94
variable {T : TT} {d b q o fo fi dd sh k i n m c : Nat} {L : List CD} {H : HEAP} {Q : WQ} {s s' : mjSt3} {e : Nat × Nat × Nat × Nat}
theorem sh_sm : ∀ k, k < 64 → ((((nI k).toInt64 &&& 63).toBitVec.smod 64)).toNat = k := by decide +kernel
theorem bit_at (x : Int64) {k : Nat} (hk : k < 64) : ((x >>> ((nI k).toInt64 &&& 63)) &&& (1 : Int64)) = 0 ↔ lb x k = false := by
  have e1 : ((x >>> ((nI k).toInt64 &&& 63)) &&& (1 : Int64)).toBitVec = (x.toBitVec.sshiftRight k) &&& 1#64 := by
    rw [Int64.toBitVec_and, Int64.toBitVec_shiftRight]
    show (x.toBitVec.sshiftRight ((((nI k).toInt64 &&& 63).toBitVec.smod 64)).toNat) &&& 1#64 = _
    rw [sh_sm k hk]
  rw [← Int64.toBitVec_inj, e1, BitVec.and_one_eq_setWidth_ofBool_getLsbD, BitVec.getLsbD_sshiftRight]
  have e2 : (!decide (64 ≤ 0) && if k + 0 < 64 then x.toBitVec.getLsbD (k + 0) else x.toBitVec.msb) = lb x k := by
    rw [if_pos (show k + 0 < 64 from hk)]
    exact Bool.true_and _
  rw [e2]
  cases lb x k <;> decide
theorem HWc.ws (h : HWc T L q H s) (o : oWc s s') : HWc T L q H s' := by
  obtain ⟨h1, h2, h3, h4⟩ := h
  have r : ∀ h, ¬ (91 ≤ h ∧ h ≤ 96) → s'.1 h = s.1 h := fun h e => funext fun j => o.1 h j e
  have l : s'.2.1 = s.2.1 := funext fun h => funext fun j => o.2.1 h j (fun x => x)
  refine ⟨h1.keep (fun x hx => r x (by omega)), by rw [r 79 (by omega)]; exact h2, by rw [o.2.2]; exact h3, fun h => ?_⟩
  obtain ⟨g1, g2, g3⟩ := h4 h
  have hq : q = 2 ∨ q = 30 := g1
  exact ⟨g1, fun c hc => by rw [r (q + 8) (by omega)]; exact g2 c hc, fun c hc i hi => by rw [l]; exact g3 c hc i hi⟩
theorem oWs.toC (o : oWs s s') : oWc s s' := offG.mono o (fun h j w => by omega) (fun _ _ x => x)
theorem oWs.w1 {v : Int32} : oWs s (uI s 91 (upd (s.1 91) 3 v)) := offG.w (Or.inl ⟨rfl, rfl⟩)
theorem oWs.w2 {h : Nat} {g : Nat → Int32} (hh : h = 92 ∨ h = 93) : oWs s (uI s h g) := offG_of (fun h' j e => by rw [uI_ne _ _ _ _ (fun q => e (by rw [q]; exact Or.inr hh))]) rfl
/-- holdsObject -/
theorem x_124 (hq : isP q) (hc : c < 16) (hi : i < 384) : mjF (d + 1) 124 [.ref q, .int (nI c), .int (nI i)] (mjW0 s) = some (some (.int (b2 (lb (s.2.1 (q + 13) (6 * c + i / 64)) (i % 64)))), mjW0 s) := by
  have m := Nat.div_add_mod i 64
  have ml : i % 64 < 64 := Nat.mod_lt _ (by decide)
  rw [e_124]
  unfold f_124 b_124_0
  rw [yg_13 hq, show nI i / (64 : Int32) = nI (i / 64) from pk_div (d := 64) (by omega) (by decide) (by decide), show nI c * (6 : Int32) + nI (i / 64) = nI (6 * c + i / 64) by rw [show (6 : Int32) = nI 6 from rfl, nI_mul, nI_add, Nat.mul_comm], wya_13 hq (by omega), show nI i - nI (i / 64) * (64 : Int32) = nI (i % 64) by rw [show (64 : Int32) = nI 64 from rfl, nI_mul, pk_sub (by omega)]; exact congrArg nI (by omega)]
  cases hl : lb (s.2.1 (q + 13) (6 * c + i / 64)) (i % 64) with
  | false => rw [if_pos ((lg_cmp_eq _ _).mpr ((bit_at _ ml).mpr hl))]; rfl
  | true => rw [if_neg (fun x => by have := (bit_at _ ml).mp ((lg_cmp_eq _ _).mp x); rw [hl] at this; cases this)]; rfl
/-- fieldsOf, hop -/
theorem x_189 (P : HWp T L b H) (hW : HWc T L q H s) (o1 : 1 ≤ o) (o2 : o ≤ H.1) : mjF (d + 2) 189 [.ref 91, .int (nI o)] (mjW0 s) = some (some (.int (nI (fldT T L (H.2 o).1))), mjW0 s) := by
  obtain ⟨g1, g2, g3⟩ := hW.2.2.2 (by omega)
  have cl := (P.1 o o1 o2).1
  have l16 := P.2.2.2.1
  rw [e_189]
  unfold f_189 b_189_0
  rw [xg_91_1, hW.2.2.1, yg_8 g1, xg_91_0, xV_79, x_46 hW.1 P.2.1 o1 o2, bI_s, wya_8 g1 (by omega), g2 _ cl]
theorem x_190 (P : HWp T L b H) (hW : HWc T L q H s) (o1 : 1 ≤ o) (o2 : o ≤ H.1) (hi : i < fldT T L (H.2 o).1) : mjF (d + 2) 190 [.ref 91, .int (nI o), .int (nI i)] (mjW0 s) = some (some (.int (nI (hopN T L H o i))), mjW0 s) := by
  obtain ⟨g1, g2, g3⟩ := hW.2.2.2 (by omega)
  have cl := (P.1 o o1 o2).1
  have l16 := P.2.2.2.1
  have f3 := P.2.2.2.2.2 (H.2 o).1
  have b1 := P.2.1.1
  have b2' := P.2.1.2
  obtain ⟨h1, h2⟩ := hop_ok (T := T) (L := L) (H := H) (o := o) (i := i) P.1 (by omega) o1 o2
  rw [e_190]
  unfold f_190 b_190_0
  rw [xg_91_1, hW.2.2.1, xg_91_0, xV_79, x_46 hW.1 P.2.1 o1 o2, bI_s, yV g1, x_124 g1 (by omega) (by omega), bI_s, g3 _ cl i (by omega), b2_i]
  by_cases g : obT T L (H.2 o).1 i = true
  · rw [if_pos g, xg_91_0, xV_79, x_45 hW.1 P.2.1 o1 o2 hi, bI_s, h2 g]
  · rw [if_neg g]
    have : hopN T L H o i = 0 := if_neg g
    rw [this]
    rfl
/-- comeTo -/
theorem x_187 (W : WCr H Q s) (hQ : WOK H Q) (hb : H.1 ≤ 1334) (o1 : 1 ≤ o) (o2 : o ≤ H.1) (hp : (fo = 0 ∧ dd = 0) ∨ (1 ≤ fo ∧ fo ≤ H.1 ∧ ∃ p : Nat × Nat × Nat × Nat, Q[fi]? = some p ∧ p.1 = fo ∧ dd = p.2.2.2 + 1)) : ∃ s', mjF (d + 1) 187 [.ref 91, .int (nI o), .int (nI fo)] (mjW0 s) = some (none, mjW0 s') ∧ oWs s s' ∧ WCr H (wCome Q o fo fi dd) s' ∧ WOK H (wCome Q o fo fi dd) := by
  have hok : WOK H (wCome Q o fo fi dd) := hQ.come o1 o2 (hp.imp (fun h => h) (fun h => ⟨h.1, h.2.2⟩))
  have ln := hQ.len
  obtain ⟨w1, w2, w3, w4⟩ := W
  have pre : mjF (d + 1) 187 [.ref 91, .int (nI o), .int (nI fo)] (mjW0 s) = f_187 (mjF d) 91 (nI o) (nI fo) (mjW0 s) := e_187
  unfold f_187 b_187_0 at pre
  rw [xg_91_4, wa_93 (by omega)] at pre
  cases hi : inWb Q o with
  | true =>
    obtain ⟨x, x1, x2⟩ := inWb_iff.mp hi
    have v := w3 x x1
    rw [x2] at v
    have x3 : x.2.1 < 2 ^ 31 := by
      obtain ⟨k, hk⟩ := List.getElem?_of_mem x1
      rcases hQ.2.2 k x hk with h | ⟨_, _, p, p1, p2, _⟩
      · omega
      · have := hQ.2.1 p (List.mem_of_getElem? p1)
        omega
    rw [v, if_neg (nI_m1 x3)] at pre
    have ew : wCome Q o fo fi dd = Q := if_pos hi
    rw [ew] at hok ⊢
    exact ⟨s, pre, offG.rf, ⟨w1, w2, w3, w4⟩, hok⟩
  | false =>
    have nin : ¬ inW Q o := fun h => by rw [inWb_iff.mpr h] at hi; cases hi
    have ew : wCome Q o fo fi dd = Q ++ [(o, fo, fi, dd)] := if_neg (by rw [hi]; decide)
    rw [ew] at hok ⊢
    have ln2 := hok.len
    rw [List.length_append, List.length_singleton] at ln2
    obtain ⟨z1, g1⟩ : ∃ y, y = uI s 93 (upd (s.1 93) o (nI fo)) := ⟨_, rfl⟩
    obtain ⟨z2, g2⟩ : ∃ y, y = uI z1 92 (upd (z1.1 92) Q.length (nI o)) := ⟨_, rfl⟩
    obtain ⟨z3, g3⟩ : ∃ y, y = uI z2 91 (upd (z2.1 91) 3 (nI (Q.length + 1))) := ⟨_, rfl⟩
    have c1 : z1.1 91 3 = nI Q.length := by rw [g1, uI_ne _ _ _ _ (by decide)]; exact w1
    have c2 : z2.1 91 3 = nI Q.length := by rw [g2, uI_ne _ _ _ _ (by decide)]; exact c1
    have e93 : ∀ j, z3.1 93 j = if j = o then nI fo else s.1 93 j := fun j => by rw [g3, uI_ne _ _ _ _ (by decide), g2, uI_ne _ _ _ _ (by decide), g1, uI_same, upd_g]
    have e92 : ∀ j, z3.1 92 j = if j = Q.length then nI o else s.1 92 j := fun j => by rw [g3, uI_ne _ _ _ _ (by decide), g2, uI_same, upd_g, g1, uI_ne _ _ _ _ (by decide)]
    refine ⟨z3, ?_, offG.tr (b := z1) (by rw [g1]; exact oWs.w2 (by omega)) (offG.tr (b := z2) (by rw [g2]; exact oWs.w2 (by omega)) (by rw [g3]; exact oWs.w1)), ⟨?_, fun k e he => ?_, fun e he => ?_, fun y hy hn => ?_⟩, hok⟩
    · rw [w4 o o2 nin, if_pos rfl, xg_91_3, w1, xg_91_2, xN_92, if_neg (show ¬ Int32.ofNat 1335 ≤ nI Q.length from nI_ge (b := 1335) (by omega) (by decide)), xg_91_4, ws_93 (by omega), ← g1, xg_91_2, xg_91_3, c1, ws_92 (by omega), ← g2, xg_91_3, c2, nI_1, xp_91_3, ← g3] at pre
      exact pre
    · rw [g3, uI_same, upd_g, if_pos rfl, List.length_append, List.length_singleton]
    · by_cases kl : k < Q.length
      · rw [List.getElem?_append_left kl] at he
        rw [e92, if_neg (by omega)]
        exact w2 k e he
      · rw [List.getElem?_append_right (by omega)] at he
        have kl2 := (List.getElem?_eq_some_iff.mp he).1
        rw [List.length_singleton] at kl2
        rw [show k - Q.length = 0 by omega] at he
        have e' : (o, fo, fi, dd) = e := by simpa using he
        rw [← e', e92, if_pos (by omega)]
    · rcases List.mem_append.mp he with he | he
      · rw [e93, if_neg (fun x => nin ⟨e, he, x⟩)]
        exact w3 e he
      · have e' : e = (o, fo, fi, dd) := by simpa using he
        rw [e', e93, if_pos rfl]
    · have ne : ¬ y = o := fun x => hn ⟨(o, fo, fi, dd), List.mem_append_right _ (List.mem_singleton.mpr rfl), x.symm⟩
      rw [e93, if_neg ne]
      exact w4 y hy (fun ⟨x, x1, x2⟩ => hn ⟨x, List.mem_append_left _ x1, x2⟩)
theorem L188c_S (R : mjR) (n a : Nat) (x y u v : Int32) (hp : mjH) : L_188_9 R (n + 1) a x y u v hp = b_188_9 R (L_188_9 R n) a x y u v hp := rfl
theorem lq_188c (P : HWp T L b H) (hsh : sh ≤ H.1) : ∀ (r i m : Nat) (Q : WQ) (s : mjSt3), Q[k]? = some e → i + r = fldT T L (H.2 e.1).1 → r < m → HWc T L q H s → WCr H Q s → WOK H Q → ∃ s', L_188_9 (mjF (d + 2)) m 91 (nI e.1) (nI sh) (nI (fldT T L (H.2 e.1).1)) (nI i) (mjW0 s) = some (none, mjW0 s') ∧ oWs s s' ∧ WCr H (wSlots T L H sh e.1 k e.2.2.2 r i Q) s' ∧ WOK H (wSlots T L H sh e.1 k e.2.2.2 r i Q)
  | r, i, 0, Q, s, he, ei, hr, hW, W, hQ => by omega
  | 0, i, m + 1, Q, s, he, ei, hr, hW, W, hQ => by
    have f3 := P.2.2.2.2.2 (H.2 e.1).1
    refine ⟨s, ?_, offG.rf, W, hQ⟩
    rw [L188c_S]
    unfold b_188_9
    rw [if_pos (nI_le (by omega) (by omega))]
  | r + 1, i, m + 1, Q, s, he, ei, hr, hW, W, hQ => by
    have b1 := P.2.1.1
    have b2' := P.2.1.2
    obtain ⟨e1, e2⟩ := hQ.2.1 e (List.mem_of_getElem? he)
    have f3 := P.2.2.2.2.2 (H.2 e.1).1
    have il : i < fldT T L (H.2 e.1).1 := by omega
    obtain ⟨hh1, hh2⟩ := hop_ok (T := T) (L := L) (H := H) (o := e.1) (i := i) P.1 (by omega) e1 e2
    have st : wSlots T L H sh e.1 k e.2.2.2 (r + 1) i Q = wSlots T L H sh e.1 k e.2.2.2 r (i + 1) (wHop T L H sh e.1 k e.2.2.2 i Q) := rfl
    rw [L188c_S, st]
    unfold b_188_9 b_188_42
    rw [if_neg (nI_ge (by omega) (by omega)), xV_91, x_190 (d := d) P hW e1 e2 il, bI_s]
    by_cases c0 : hopN T L H e.1 i = 0
    · have ew : wHop T L H sh e.1 k e.2.2.2 i Q = Q := if_pos (Or.inl c0)
      rw [ew, c0, if_pos (show nI 0 = 0 from rfl), nI_1]
      exact lq_188c P hsh r (i + 1) m Q s he (by omega) (by omega) hW W hQ
    · rw [if_neg (nI_ne0 (by omega) (by omega))]
      by_cases c1 : hopN T L H e.1 i = sh
      · have ew : wHop T L H sh e.1 k e.2.2.2 i Q = Q := if_pos (Or.inr c1)
        rw [ew, if_pos (by rw [c1]), nI_1]
        exact lq_188c P hsh r (i + 1) m Q s he (by omega) (by omega) hW W hQ
      · have ew : wHop T L H sh e.1 k e.2.2.2 i Q = wCome Q (hopN T L H e.1 i) e.1 k (e.2.2.2 + 1) := if_neg (fun x => x.elim c0 c1)
        rw [ew, if_neg (fun x => c1 ((nI_eq (by omega) (by omega)).mp x)), xV_91]
        obtain ⟨s1, a1, a2, a3, a4⟩ := x_187 (d := d + 1) (fo := e.1) (fi := k) (dd := e.2.2.2 + 1) W hQ (by omega) (show 1 ≤ hopN T L H e.1 i by omega) hh1 (Or.inr ⟨e1, e2, e, he, rfl, rfl⟩)
        obtain ⟨R, eR⟩ := come_pre (Q := Q) (o := hopN T L H e.1 i) (fo := e.1) (fi := k) (d := e.2.2.2 + 1)
        obtain ⟨s2, d1, d2, d3, d4⟩ := lq_188c P hsh r (i + 1) m _ s1 (by rw [eR]; exact pre_at he) (by omega) (by omega) (hW.ws a2.toC) a3 a4
        refine ⟨s2, ?_, offG.tr a2 d2, d3, d4⟩
        rw [a1, bN_s, nI_1]
        exact d1
theorem L186q_S (R : mjR) (n a : Nat) (x y : Int32) (hp : mjH) : L_186_81 R (n + 1) a x y hp = b_186_81 R (L_186_81 R n) a x y hp := rfl
theorem lq_186q (P : HWp T L b H) (hsh : sh ≤ H.1) : ∀ (n k m : Nat) (Q : WQ) (s : mjSt3), n + k = H.1 + 1 → n < m → HWc T L q H s → WCr H Q s → WOK H Q → ∃ s', L_186_81 (mjF (d + 3)) m 91 (nI sh) (nI k) (mjW0 s) = some (none, mjW0 s') ∧ oWs s s' ∧ WCr H (wGo T L H sh n k Q) s' ∧ WOK H (wGo T L H sh n k Q)
  | n, k, 0, Q, s, en, hm, hW, W, hQ => by omega
  | 0, k, m + 1, Q, s, en, hm, hW, W, hQ => by
    have b1 := P.2.1.1
    have b2' := P.2.1.2
    refine ⟨s, ?_, offG.rf, W, hQ⟩
    rw [L186q_S]
    unfold b_186_81
    rw [xg_91_0, xg_79_2, hW.2.1, if_pos (nI_le (by omega) (by omega))]
  | n + 1, k, m + 1, Q, s, en, hm, hW, W, hQ => by
    have ln := hQ.len
    have b1 := P.2.1.1
    have b2' := P.2.1.2
    cases he : Q[k]? with
    | none =>
      have kl := List.getElem?_eq_none_iff.mp he
      have ew : wGo T L H sh (n + 1) k Q = Q := by
        show (match Q[k]? with
          | none => Q
          | some e => wGo T L H sh n (k + 1) (wSlots T L H sh e.1 k e.2.2.2 (fldT T L (H.2 e.1).1) 0 Q)) = Q
        rw [he]
      rw [ew]
      refine ⟨s, ?_, offG.rf, W, hQ⟩
      rw [L186q_S]
      unfold b_186_81
      rw [xg_91_0, xg_79_2, hW.2.1]
      by_cases g : H.1 ≤ k
      · rw [if_pos (nI_le g (by omega))]
      · rw [if_neg (nI_ge (by omega) (by omega)), xg_91_3, W.1, if_pos (nI_le (by omega) (by omega))]
    | some e =>
      have kl := (List.getElem?_eq_some_iff.mp he).1
      obtain ⟨e1, e2⟩ := hQ.2.1 e (List.mem_of_getElem? he)
      have f3 := P.2.2.2.2.2 (H.2 e.1).1
      have ew : wGo T L H sh (n + 1) k Q = wGo T L H sh n (k + 1) (wSlots T L H sh e.1 k e.2.2.2 (fldT T L (H.2 e.1).1) 0 Q) := by
        show (match Q[k]? with
          | none => Q
          | some e => wGo T L H sh n (k + 1) (wSlots T L H sh e.1 k e.2.2.2 (fldT T L (H.2 e.1).1) 0 Q)) = _
        rw [he]
      rw [ew]
      obtain ⟨s1, a1, a2, a3, a4⟩ := lq_188c (d := d) P hsh (fldT T L (H.2 e.1).1) 0 mjN Q s he (by omega) (by unfold mjN; omega) hW W hQ
      obtain ⟨s2, d1, d2, d3, d4⟩ := lq_186q P hsh n (k + 1) m _ s1 (by omega) (by omega) (hW.ws a2.toC) a3 a4
      refine ⟨s2, ?_, offG.tr a2 d2, d3, d4⟩
      have x188 : mjF (d + 3) 188 [.ref 91, .int (nI e.1), .int (nI sh)] (mjW0 s) = some (none, mjW0 s1) := by
        rw [e_188]
        unfold f_188 b_188_0
        rw [xV_91, x_189 (d := d) P hW e1 e2, bI_s]
        exact a1
      rw [L186q_S]
      unfold b_186_81
      rw [xg_91_0, xg_79_2, hW.2.1, if_neg (nI_ge (by omega) (by omega)), xg_91_3, W.1, if_neg (nI_ge (by omega) (by omega)), xg_91_2, wa_92 (by omega), W.2.1 k e he, xV_91, x188, bN_s, nI_1]
      exact d1
theorem L186r_S (R : mjR) (n a : Nat) (x y u : Int32) (hp : mjH) : L_186_35 R (n + 1) a x y u hp = b_186_35 R (L_186_35 R n) a x y u hp := rfl
theorem lq_186r (P : HWp T L b H) (hsh : sh ≤ H.1) : ∀ (r o m : Nat) (Q : WQ) (s : mjSt3), o + r = H.1 + 1 → 1 ≤ o → r < m → HWc T L q H s → WCr H Q s → WOK H Q → ∃ s', L_186_35 (mjF (d + 3)) m 91 0 (nI sh) (nI o) (mjW0 s) = some (none, mjW0 s') ∧ oWs s s' ∧ WCr H (wGo T L H sh (H.1 + 1) 0 (wRoots H sh r o Q)) s' ∧ WOK H (wGo T L H sh (H.1 + 1) 0 (wRoots H sh r o Q))
  | r, o, 0, Q, s, eo, o1, hm, hW, W, hQ => by omega
  | 0, o, m + 1, Q, s, eo, o1, hm, hW, W, hQ => by
    have b1 := P.2.1.1
    have b2' := P.2.1.2
    obtain ⟨s', a1, a2, a3, a4⟩ := lq_186q (d := d) P hsh (H.1 + 1) 0 mjN Q s (by omega) (by unfold mjN; omega) hW W hQ
    refine ⟨s', ?_, a2, a3, a4⟩
    rw [L186r_S]
    unfold b_186_35 b_186_79
    rw [xg_91_0, xg_79_2, hW.2.1, if_pos (nI_lt (by omega) (by omega))]
    exact a1
  | r + 1, o, m + 1, Q, s, eo, o1, hm, hW, W, hQ => by
    have b1 := P.2.1.1
    have b2' := P.2.1.2
    have ol := (P.1 o o1 (by omega)).2.1 0
    have st : wRoots H sh (r + 1) o Q = wRoots H sh r (o + 1) (wRoot H sh o Q) := rfl
    have x49 : mjF (d + 3) 49 [.ref 79, .int (nI o), .int 0] (mjW0 s) = some (some (.int (nI ((H.2 o).2.1 0))), mjW0 s) := x_49 (d := d + 2) (i := 0) hW.1 P.2.1 o1 (by omega) (P.n1 o1 (by omega))
    have pre : L_186_35 (mjF (d + 3)) (m + 1) 91 0 (nI sh) (nI o) (mjW0 s) = (if nI ((H.2 o).2.1 0) = 0 then (if nI o = nI sh then L_186_35 (mjF (d + 3)) m 91 0 (nI sh) (nI (o + 1)) (mjW0 s) else bN (mjF (d + 3) 187 [.ref 91, .int (nI o), .int 0] (mjW0 s)) (fun hp6 => L_186_35 (mjF (d + 3)) m 91 0 (nI sh) (nI (o + 1)) hp6)) else L_186_35 (mjF (d + 3)) m 91 0 (nI sh) (nI (o + 1)) (mjW0 s)) := by
      rw [L186r_S]
      unfold b_186_35 b_186_73
      rw [xg_91_0, xg_79_2, hW.2.1, if_neg (nI_nlt (by omega) (by omega)), if_pos rfl, xg_91_0, xV_79, x49, bI_s, nI_1, xV_91]
    rw [pre, st]
    by_cases g : (H.2 o).2.1 0 = 0 ∧ ¬ o = sh
    · have ew : wRoot H sh o Q = wCome Q o 0 0 0 := if_pos g
      rw [ew, if_pos (by rw [g.1]; rfl), if_neg (fun x => g.2 ((nI_eq (by omega) (by omega)).mp x))]
      obtain ⟨s1, a1, a2, a3, a4⟩ := x_187 (d := d + 2) (fo := 0) (fi := 0) (dd := 0) W hQ (by omega) o1 (by omega) (Or.inl ⟨rfl, rfl⟩)
      have a1' : mjF (d + 3) 187 [.ref 91, .int (nI o), .int 0] (mjW0 s) = some (none, mjW0 s1) := a1
      obtain ⟨s2, d1, d2, d3, d4⟩ := lq_186r P hsh r (o + 1) m _ s1 (by omega) (by omega) (by omega) (hW.ws a2.toC) a3 a4
      exact ⟨s2, by rw [a1', bN_s]; exact d1, offG.tr a2 d2, d3, d4⟩
    · have ew : wRoot H sh o Q = Q := if_neg g
      rw [ew]
      have ih := lq_186r P hsh r (o + 1) m Q s (by omega) (by omega) (by omega) hW W hQ
      by_cases g0 : (H.2 o).2.1 0 = 0
      · have g1 : o = sh := Classical.byContradiction (fun x => g ⟨g0, x⟩)
        rw [if_pos (by rw [g0]; rfl), if_pos (by rw [g1])]
        exact ih
      · rw [if_neg (nI_ne0 (by omega) (by omega))]
        exact ih
/-- nothing is come to yet -/
theorem x_186p (hb : H.1 ≤ 1334) (h79 : s.1 79 2 = nI H.1) : ∃ s', (∀ (R : mjR) (l1 l2 : Int32), (∀ (v : Nat) (hp : mjH), R 379 [.ref v, .int 0, .int (nI (H.1 + 1)), .int (-1)] hp = mjF (d + 2) 379 [.ref v, .int (nI 0), .int (nI (H.1 + 1)), .int (-1)] hp) → b_186_0 R 91 l1 l2 (mjW0 s) = (if l1 = 0 then b_186_33 R 91 l1 l2 (mjW0 s') else rV (mjW0 s') 91 10 (bN (R 187 [.ref 91, .int l1, .int (0 : Int32)] (mjW0 s')) (fun hp6 => b_186_33 R 91 l1 l2 hp6)))) ∧ oWs s s' ∧ WCr H [] s' := by
  obtain ⟨z1, g1⟩ : ∃ y, y = uI s 91 (upd (s.1 91) 3 0) := ⟨_, rfl⟩
  obtain ⟨z2, g2⟩ : ∃ y, y = uI z1 93 (fillF (z1.1 93) 0 (H.1 + 1) (-1)) := ⟨_, rfl⟩
  have c1 : z1.1 79 2 = nI H.1 := by rw [g1, uI_ne _ _ _ _ (by decide)]; exact h79
  refine ⟨z2, fun R l1 l2 hR => ?_, offG.tr (b := z1) (by rw [g1]; exact oWs.w1) (by rw [g2]; exact oWs.w2 (by omega)), ⟨?_, fun k e he => (by cases he), fun e he => (by cases he), fun o ho _ => ?_⟩⟩
  · unfold b_186_0
    rw [xp_91_3, ← g1, xg_91_4, xg_91_0, xg_79_2, c1, nI_1, hR, q_379 tT_93 (by decide) (by omega) (by omega), bN_s, ← g2]
  · rw [g2, uI_ne _ _ _ _ (by decide), g1, uI_same, upd_g, if_pos rfl]; rfl
  · rw [g2, uI_same]
    show (if 0 ≤ o ∧ o < H.1 + 1 then (-1 : Int32) else z1.1 93 o) = -1
    rw [if_pos ⟨Nat.zero_le _, by omega⟩]
/-- spread from all ROOTS but one -/
theorem x_186R (P : HWp T L b H) (hsh : sh ≤ H.1) (hW : HWc T L q H s) : ∃ s', mjF (d + 4) 186 [.ref 91, .int 0, .int (nI sh)] (mjW0 s) = some (none, mjW0 s') ∧ oWs s s' ∧ WCr H (walkR T L H sh) s' ∧ WOK H (walkR T L H sh) := by
  have b1 := P.2.1.1
  have b2' := P.2.1.2
  obtain ⟨s1, c1, c2, c3⟩ := x_186p (d := d + 1) (H := H) (s := s) (by omega) hW.2.1
  obtain ⟨s', a1, a2, a3, a4⟩ := lq_186r (d := d) P hsh H.1 1 mjN [] s1 (by omega) (by omega) (by unfold mjN; omega) (hW.ws c2.toC) c3 WOK.nil
  refine ⟨s', ?_, offG.tr c2 a2, a3, a4⟩
  rw [e_186]
  unfold f_186
  rw [c1 (mjF (d + 3)) 0 (nI sh) (fun v hp => rfl), if_pos rfl]
  unfold b_186_33
  exact a1
/-- spread from an OBJECT -/
theorem x_186O (P : HWp T L b H) (o1 : 1 ≤ o) (o2 : o ≤ H.1) (hW : HWc T L q H s) : ∃ s', mjF (d + 4) 186 [.ref 91, .int (nI o), .int 0] (mjW0 s) = some (none, mjW0 s') ∧ oWs s s' ∧ WCr H (walkO T L H o) s' ∧ WOK H (walkO T L H o) := by
  have b1 := P.2.1.1
  have b2' := P.2.1.2
  obtain ⟨s1, c1, c2, c3⟩ := x_186p (d := d + 1) (H := H) (s := s) (by omega) hW.2.1
  obtain ⟨s2, e1, e2, e3, e4⟩ := x_187 (d := d + 2) (fo := 0) (fi := 0) (dd := 0) c3 WOK.nil (by omega) o1 o2 (Or.inl ⟨rfl, rfl⟩)
  have ew : wCome [] o 0 0 0 = [(o, 0, 0, 0)] := rfl
  rw [ew] at e3 e4
  have e1' : mjF (d + 3) 187 [.ref 91, .int (nI o), .int 0] (mjW0 s1) = some (none, mjW0 s2) := e1
  have hW2 := (hW.ws c2.toC).ws e2.toC
  obtain ⟨s3, f1, f2, f3, f4⟩ := lq_186q (d := d) (sh := 0) P (Nat.zero_le _) (H.1 + 1) 0 mjN _ s2 (by omega) (by unfold mjN; omega) hW2 e3 e4
  refine ⟨s3, ?_, offG.tr c2 (offG.tr e2 f2), f3, f4⟩
  rw [e_186]
  unfold f_186
  rw [c1 (mjF (d + 3)) (nI o) 0 (fun v hp => rfl), if_neg (nI_ne0 (by omega) (by omega)), xV_91, e1', bN_s]
  unfold b_186_33
  rw [show mjN = 99999999 + 1 from rfl, L186r_S]
  unfold b_186_35 b_186_79
  rw [xg_91_0, xg_79_2, hW2.2.1]
  have : (if nI H.1 < 1 then L_186_81 (mjF (d + 3)) mjN 91 0 0 (mjW0 s2) else if nI o = 0 then gR (mjW0 s2) 91 10 0 (fun v3 => rV (mjW0 s2) v3 3 (bI (mjF (d + 3) 49 [.ref v3, .int 1, .int (0 : Int32)] (mjW0 s2)) (fun v4 hp5 => (if v4 = 0 then (if (1 : Int32) = 0 then b_186_73 (mjF (d + 3)) (L_186_35 (mjF (d + 3)) 99999999) 91 (nI o) 0 1 hp5 else rV hp5 91 10 (bN (mjF (d + 3) 187 [.ref 91, .int 1, .int (0 : Int32)] hp5) (fun hp6 => b_186_73 (mjF (d + 3)) (L_186_35 (mjF (d + 3)) 99999999) 91 (nI o) 0 1 hp6))) else b_186_73 (mjF (d + 3)) (L_186_35 (mjF (d + 3)) 99999999) 91 (nI o) 0 1 hp5)))) else L_186_81 (mjF (d + 3)) mjN 91 0 0 (mjW0 s2)) = some (none, mjW0 s3) := by
    rw [if_neg (show ¬ nI H.1 < 1 from nI_nlt (b := 1) (by omega) (by omega)), if_neg (nI_ne0 (by omega) (by omega))]
    exact f1
  exact this
end MJB94
