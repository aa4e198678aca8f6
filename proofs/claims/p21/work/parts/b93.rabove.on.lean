section
/-! ===== above: the reference ===== -/
/-- the nearest of the first j of a WAY without which o is not come to -/
def nrA (T : TT) (L : List CD) (H : HEAP) (Q : WQ) (k o : Nat) : Nat → Nat
  | 0 => 0
  | j + 1 => if inWb (walkR T L H (upQ Q j (k + 1) k)) o = true then nrA T L H Q k o j else upQ Q j (k + 1) k
section MJB93
variable {T : TT} {d b o i n m c k dd : Nat} {L : List CD} {H : HEAP} {Q : WQ} {s s' : mjSt3} {a v : Int32} {e : Nat × Nat × Nat × Nat}
theorem upQ_at {x : Nat} (he : Q[k]? = some e) : upQ Q x (n + 1) k = if e.2.2.2 ≤ x then e.1 else upQ Q x n e.2.2.1 := by
  show (match Q[k]? with
    | none => 0
    | some e => if e.2.2.2 ≤ x then e.1 else upQ Q x n e.2.2.1) = _
  rw [he]
theorem upQ_fu (hQ : WOK H Q) {x : Nat} : ∀ (n k : Nat), k < n → upQ Q x n k = upQ Q x (k + 1) k
  | 0, k, h => by omega
  | n + 1, k, h => by
    cases he : Q[k]? with
    | none =>
      have e0 : ∀ n, upQ Q x (n + 1) k = 0 := fun n => by
        show (match Q[k]? with
          | none => 0
          | some e => if e.2.2.2 ≤ x then e.1 else upQ Q x n e.2.2.1) = 0
        rw [he]
      rw [e0, e0]
    | some e =>
      rw [upQ_at he, upQ_at he]
      by_cases g : e.2.2.2 ≤ x
      · rw [if_pos g, if_pos g]
      · rw [if_neg g, if_neg g]
        rcases hQ.2.2 k e he with ⟨_, h'⟩ | ⟨h0, h1, _⟩
        · omega
        · rw [upQ_fu hQ n e.2.2.1 (by omega)]
          by_cases q : k = 0
          · omega
          · obtain ⟨k', ek⟩ : ∃ k', k = k' + 1 := ⟨k - 1, by omega⟩
            have : e.2.2.1 < k := h1
            rw [upQ_fu hQ k e.2.2.1 (by omega)]
/-- it is an OBJECT -/
theorem upQ_ok (hQ : WOK H Q) {x : Nat} : ∀ (n k : Nat) (e : Nat × Nat × Nat × Nat), k < n → Q[k]? = some e → 1 ≤ upQ Q x n k ∧ upQ Q x n k ≤ H.1
  | 0, k, e, h, he => by omega
  | n + 1, k, e, h, he => by
    rw [upQ_at he]
    by_cases g : e.2.2.2 ≤ x
    · rw [if_pos g]; exact hQ.2.1 e (List.mem_of_getElem? he)
    · rw [if_neg g]
      rcases hQ.2.2 k e he with ⟨_, h'⟩ | ⟨h0, h1, p, p1, _⟩
      · omega
      · exact upQ_ok hQ n e.2.2.1 p (by omega) p1
theorem sub1 (x : Int32) : x - 1 = x + (-1) := by rw [Int32.sub_eq_add_neg]
theorem L257a_S (R : mjR) (n x : Nat) (y u w z : Int32) (hp : mjH) : L_257_39 R (n + 1) x y u w z hp = b_257_39 R (L_257_39 R n) x y u w z hp := rfl
theorem L257b_S (R : mjR) (n x : Nat) (y u : Int32) (hp : mjH) : L_257_75 R (n + 1) x y u hp = b_257_75 R (L_257_75 R n) x y u hp := rfl
theorem lq_257a (R : mjR) (hb : H.1 ≤ 1334) (hQ : WOK H Q) (hd : dd ≤ 1334) : ∀ (j m l : Nat) (e : Nat × Nat × Nat × Nat) (s : mjSt3), j < m → Q[l]? = some e → e.2.2.2 = j → j ≤ dd → (∀ x, x < j → upQ Q x (l + 1) l = upQ Q x (k + 1) k) → (∀ x, j ≤ x → x < dd → s.1 187 x = nI (upQ Q x (k + 1) k)) → WRr H Q s → ∃ s', L_257_39 R m 97 (nI o) (nI l) (nI dd) (nI j + (-1)) (mjW0 s) = L_257_75 R mjN 97 (nI o) (nI dd + (-1)) (mjW0 s') ∧ (∀ h, ¬ h = 187 → s'.1 h = s.1 h) ∧ s'.2 = s.2 ∧ ∀ x, x < dd → s'.1 187 x = nI (upQ Q x (k + 1) k)
  | j, 0, l, e, s, hm, he, hj, jd, hu, w, W => by omega
  | 0, m + 1, l, e, s, hm, he, hj, jd, hu, w, W => by
    refine ⟨s, ?_, fun _ _ => rfl, rfl, fun x hx => w x (by omega) hx⟩
    rw [L257a_S]
    unfold b_257_39
    rw [if_pos (show nI 0 + (-1) < (0 : Int32) by decide), sub1]
  | j + 1, m + 1, l, e, s, hm, he, hj, jd, hu, w, W => by
    have ln := hQ.len
    have kl := (List.getElem?_eq_some_iff.mp he).1
    obtain ⟨w1, w2, w3⟩ := W.2.1 l e he
    rcases hQ.2.2 l e he with ⟨_, h'⟩ | ⟨h0, h1, p, p1, p2, p3⟩
    · omega
    · rw [if_neg (show ¬ e.2.1 = 0 by omega)] at w2
      have pl := (List.getElem?_eq_some_iff.mp p1).1
      have val : upQ Q j (k + 1) k = p.1 := by
        rw [← hu j (by omega), upQ_at he, if_neg (by omega), upQ_fu hQ l e.2.2.1 h1, upQ_at p1, if_pos (by omega)]
      obtain ⟨z1, g1⟩ : ∃ y, y = uI s 187 (upd (s.1 187) j (nI p.1)) := ⟨_, rfl⟩
      have r1 : ∀ h, ¬ h = 187 → z1.1 h = s.1 h := fun h e => by rw [g1, uI_ne _ _ _ _ e]
      obtain ⟨s', a1, a2, a3, a4⟩ := lq_257a R hb hQ hd j m e.2.2.1 p z1 (by omega) p1 (by omega) (by omega) (fun x hx => by
        rw [← hu x (by omega), upQ_at he, if_neg (by omega), upQ_fu hQ l e.2.2.1 h1]) (fun x h1 h2 => by
        rw [g1, uI_same, upd_g]
        by_cases q : x = j
        · rw [if_pos q, q, val]
        · rw [if_neg q]; exact w x (by omega) h2) (by
        unfold WRr at W ⊢
        rw [r1 97 (by decide), r1 177 (by decide), r1 178 (by decide), r1 179 (by decide), r1 180 (by decide)]
        exact W)
      refine ⟨s', ?_, fun h e => by rw [a2 h e, r1 h e], by rw [a3, g1]; rfl, a4⟩
      rw [L257a_S]
      unfold b_257_39
      rw [nI_m, if_neg (nI_pos (by omega)), xg_97_122, wa_179 (by omega), w2, xg_97_136, xg_97_121, wa_178 (by omega), (W.2.1 e.2.2.1 p p1).1, ws_187 (by omega), ← g1]
      exact a1
theorem lq_257b (P : HWp T L b H) (hQ : WOK H Q) (he : Q[k]? = some e) (hd : dd ≤ 1334) (ho2 : o ≤ H.1) : ∀ (j m : Nat) (s : mjSt3), j < m → j ≤ dd → HWr T L b H s → (∀ x, x < dd → s.1 187 x = nI (upQ Q x (k + 1) k)) → ∃ s', L_257_75 (mjF (d + 3)) m 97 (nI o) (nI j + (-1)) (mjW0 s) = some (some (.int (nI (nrA T L H Q k o j))), mjW0 s') ∧ oWr s s'
  | j, 0, s, hm, jd, hW, w => by omega
  | 0, m + 1, s, hm, jd, hW, w => by
    refine ⟨s, ?_, offG.rf⟩
    rw [L257b_S]
    unfold b_257_75
    rw [if_pos (show nI 0 + (-1) < (0 : Int32) by decide)]
    rfl
  | j + 1, m + 1, s, hm, jd, hW, w => by
    have b1 := P.2.1.1
    have b2' := P.2.1.2
    obtain ⟨u1, u2⟩ := upQ_ok hQ (x := j) (k + 1) k e (by omega) he
    obtain ⟨s1, a1, a2, a3, a4⟩ := x_254 (d := d) (sh := upQ Q j (k + 1) k) P u2 hW
    have e187 : s1.1 187 = s.1 187 := funext fun y => a2.1 187 y (by omega)
    have st : nrA T L H Q k o (j + 1) = if inWb (walkR T L H (upQ Q j (k + 1) k)) o = true then nrA T L H Q k o j else upQ Q j (k + 1) k := rfl
    have pre : L_257_75 (mjF (d + 3)) (m + 1) 97 (nI o) (nI (j + 1) + (-1)) (mjW0 s) = (if inWb (walkR T L H (upQ Q j (k + 1) k)) o = true then L_257_75 (mjF (d + 3)) m 97 (nI o) (nI j + (-1)) (mjW0 s1) else some (some (.int (nI (upQ Q j (k + 1) k))), mjW0 s1)) := by
      rw [L257b_S]
      unfold b_257_75
      rw [nI_m, if_neg (nI_pos (by omega)), xg_97_136, wa_187 (by omega), w j (by omega), xV_97, a1, bN_s, xg_97_120, wa_177 (by omega), a3.2.2 o ho2, b2_i, xg_97_136, wa_187 (by omega), e187, w j (by omega)]
    rw [pre, st]
    by_cases g : inWb (walkR T L H (upQ Q j (k + 1) k)) o = true
    · rw [if_pos g, if_pos g]
      obtain ⟨s2, c1, c2⟩ := lq_257b P hQ he hd ho2 j m s1 (by omega) (by omega) (hW.wr a2) (by rw [e187]; exact w)
      exact ⟨s2, c1, offG.tr a2 c2⟩
    · rw [if_neg g, if_neg g]
      exact ⟨s1, rfl, a2⟩
theorem x_257 (P : HWp T L b H) (hW : HWr T L b H s) (ho1 : 1 ≤ o) (ho2 : o ≤ H.1) (h246 : ∀ d, mjF (d + 1) 246 [.ref 97, .int (nI o)] (mjW0 s) = some (some (.int 1), mjW0 s)) : ∃ s' v, mjF (d + 4) 257 [.ref 97, .int (nI o)] (mjW0 s) = some (some (.int v), mjW0 s') ∧ oWl s s' ∧ s'.1 97 126 = s.1 97 126 ∧ s'.1 97 127 = s.1 97 127 ∧ s'.1 181 = s.1 181 ∧ ((v = -1 ∧ ¬ inW (walkR T L H 0) o) ∨ ∃ (k : Nat) (e : Nat × Nat × Nat × Nat), (walkR T L H 0)[k]? = some e ∧ e.1 = o ∧ v = nI (nrA T L H (walkR T L H 0) k o e.2.2.2)) := by
  have b1 := P.2.1.1
  have b2' := P.2.1.2
  obtain ⟨s1, a1, a2, a3, a4⟩ := x_254 (d := d) (sh := 0) P (Nat.zero_le _) hW
  obtain ⟨v, c1, c2⟩ := x_250 (d := d + 2) (by omega) a3 a4 ho2
  have a1' : mjF (d + 3) 254 [.ref 97, .int 0] (mjW0 s) = some (none, mjW0 s1) := a1
  obtain ⟨q1, q2, q3⟩ := oWr_181 a2
  have pre : mjF (d + 4) 257 [.ref 97, .int (nI o)] (mjW0 s) = f_257 (mjF (d + 3)) 97 (nI o) (mjW0 s) := e_257
  unfold f_257 b_257_0 at pre
  rw [xV_97, h246 (d + 2), bI_s, if_neg (show ¬ ((1 : Int32) = 0) by decide), xV_97, a1', bN_s, xV_97, c1, bI_s] at pre
  rcases c2 with ⟨c3, c4⟩ | ⟨k, e, c3, c4, c5⟩
  · refine ⟨s1, -1, ?_, a2.l, q3 126 (by decide), q3 127 (by decide), q1, Or.inl ⟨rfl, c4⟩⟩
    rw [pre, c3, if_neg (show ¬ (0 : Int32) ≤ -1 by decide)]
  · have ln := a4.len
    have kl := (List.getElem?_eq_some_iff.mp c3).1
    have ds := a4.dist k k e (Nat.le_refl _) c3
    obtain ⟨s2, f1, f2, f3, f4⟩ := lq_257a (o := o) (dd := e.2.2.2) (k := k) (mjF (d + 3)) (show H.1 ≤ 1334 by omega) a4 (by omega) e.2.2.2 mjN k e s1 (by unfold mjN; omega) c3 rfl (Nat.le_refl _) (fun _ _ => rfl) (fun x h1 h2 => by omega) a3
    have o12 : oWl s1 s2 := offG_of (fun h j w => by rw [f2 h (by omega)]) f3
    obtain ⟨s3, k1, k2⟩ := lq_257b (d := d) (o := o) (dd := e.2.2.2) P a4 c3 (by omega) ho2 e.2.2.2 mjN s2 (by unfold mjN; omega) (Nat.le_refl _) ((hW.wr a2).wl o12) f4
    obtain ⟨r1, r2, r3⟩ := oWr_181 k2
    refine ⟨s3, _, ?_, offG.tr a2.l (offG.tr o12 k2.l), by rw [r3 126 (by decide), f2 97 (by decide), q3 126 (by decide)], by rw [r3 127 (by decide), f2 97 (by decide), q3 127 (by decide)], by rw [r1, f2 181 (by decide), q1], Or.inr ⟨k, e, c3, c4, rfl⟩⟩
    rw [pre, c5, if_pos (nI_pos' (by omega)), xg_97_123, wa_180 (by omega), (a3.2.1 k e c3).2.2, sub1]
    exact f1.trans k1
end MJB93
end
section
/-! ===== WAYS, the class ===== -/
def WCr (H : HEAP) (Q : WQ) (s : mjSt3) : Prop := s.1 91 3 = nI Q.length ∧ (∀ (k : Nat) (e : Nat × Nat × Nat × Nat), Q[k]? = some e → s.1 92 k = nI e.1) ∧ (∀ e, e ∈ Q → s.1 93 e.1 = nI e.2.1) ∧ ∀ o, o ≤ H.1 → ¬ inW Q o → s.1 93 o = -1
def HWc (T : TT) (L : List CD) (q : Nat) (H : HEAP) (s : mjSt3) : Prop := HPc T L H s ∧ s.1 79 2 = nI H.1 ∧ s.2.2 91 1 = q ∧ (1 ≤ H.1 → isP q ∧ (∀ c, c < L.length → s.1 (q + 8) c = nI (fldT T L c)) ∧ OBr q s L.length (obT T L))
def oWs : mjSt3 → mjSt3 → Prop := offG (fun h j => (h = 91 ∧ j = 3) ∨ h = 92 ∨ h = 93) (fun _ _ => False)
def oWc : mjSt3 → mjSt3 → Prop := offG (fun h _ => 91 ≤ h ∧ h ≤ 96) (fun _ _ => False)
section MJB94
variable {T : TT} {d b q o fo fi dd sh k i n m c : Nat} {L : List CD} {H : HEAP} {Q : WQ} {s s' : mjSt3} {e : Nat × Nat × Nat × Nat}
theorem sh_sm : ∀ k, k < 64 → ((((nI k).toInt64 &&& 63).toBitVec.smod 64)).toNat = k := by decide +kernel
theorem bit_at (x : Int64) {k : Nat} (hk : k < 64) : ((x >>> ((nI k).toInt64 &&& 63)) &&& (1 : Int64)) = 0 ↔ lb x k = false := by
  have e1 : ((x >>> ((nI k).toInt64 &&& 63)) &&& (1 : Int64)).toBitVec = (x.toBitVec.sshiftRight k) &&& 1#64 := by
    rw [Int64.toBitVec_and, Int64.toBitVec_shiftRight]
    show (x.toBitVec.sshiftRight ((((nI k).toInt64 &&& 63).toBitVec.smod 64)).toNat) &&& 1#64 = _
    rw [sh_sm k hk]
  rw [← Int64.toBitVec_inj, e1, BitVec.and_one_eq_setWidth_ofBool_getLsbD, BitVec.getLsbD_sshiftRight]
  have e2 : (!decide (64 ≤ 0) && if k + 0 < 64 then x.toBitVec.getLsbD (k + 0) else x.toBitVec.msb) = lb x k := by
    rw [if_pos (show k + 0 < 64 from hk)]
    exact Bool.true_and _
  rw [e2]
  cases lb x k <;> decide
theorem HWc.ws (h : HWc T L q H s) (o : oWc s s') : HWc T L q H s' := by
  obtain ⟨h1, h2, h3, h4⟩ := h
  have r : ∀ h, ¬ (91 ≤ h ∧ h ≤ 96) → s'.1 h = s.1 h := fun h e => funext fun j => o.1 h j e
  have l : s'.2.1 = s.2.1 := funext fun h => funext fun j => o.2.1 h j (fun x => x)
  refine ⟨h1.keep (fun x hx => r x (by omega)), by rw [r 79 (by omega)]; exact h2, by rw [o.2.2]; exact h3, fun h => ?_⟩
  obtain ⟨g1, g2, g3⟩ := h4 h
  have hq : q = 2 ∨ q = 30 := g1
  exact ⟨g1, fun c hc => by rw [r (q + 8) (by omega)]; exact g2 c hc, fun c hc i hi => by rw [l]; exact g3 c hc i hi⟩
theorem oWs.toC (o : oWs s s') : oWc s s' := offG.mono o (fun h j w => by omega) (fun _ _ x => x)
theorem oWs.w1 {v : Int32} : oWs s (uI s 91 (upd (s.1 91) 3 v)) := offG.w (Or.inl ⟨rfl, rfl⟩)
theorem oWs.w2 {h : Nat} {g : Nat → Int32} (hh : h = 92 ∨ h = 93) : oWs s (uI s h g) := offG_of (fun h' j e => by rw [uI_ne _ _ _ _ (fun q => e (by rw [q]; exact Or.inr hh))]) rfl
/-- holdsObject -/
theorem x_124 (hq : isP q) (hc : c < 16) (hi : i < 384) : mjF (d + 1) 124 [.ref q, .int (nI c), .int (nI i)] (mjW0 s) = some (some (.int (b2 (lb (s.2.1 (q + 13) (6 * c + i / 64)) (i % 64)))), mjW0 s) := by
  have m := Nat.div_add_mod i 64
  have ml : i % 64 < 64 := Nat.mod_lt _ (by decide)
  rw [e_124]
  unfold f_124 b_124_0
  rw [yg_13 hq, show nI i / (64 : Int32) = nI (i / 64) from pk_div (d := 64) (by omega) (by decide) (by decide), show nI c * (6 : Int32) + nI (i / 64) = nI (6 * c + i / 64) by rw [show (6 : Int32) = nI 6 from rfl, nI_mul, nI_add, Nat.mul_comm], wya_13 hq (by omega), show nI i - nI (i / 64) * (64 : Int32) = nI (i % 64) by rw [show (64 : Int32) = nI 64 from rfl, nI_mul, pk_sub (by omega)]; exact congrArg nI (by omega)]
  cases hl : lb (s.2.1 (q + 13) (6 * c + i / 64)) (i % 64) with
  | false => rw [if_pos ((lg_cmp_eq _ _).mpr ((bit_at _ ml).mpr hl))]; rfl
  | true => rw [if_neg (fun x => by have := (bit_at _ ml).mp ((lg_cmp_eq _ _).mp x); rw [hl] at this; cases this)]; rfl
/-- fieldsOf, hop -/
theorem x_189 (P : HWp T L b H) (hW : HWc T L q H s) (o1 : 1 ≤ o) (o2 : o ≤ H.1) : mjF (d + 2) 189 [.ref 91, .int (nI o)] (mjW0 s) = some (some (.int (nI (fldT T L (H.2 o).1))), mjW0 s) := by
  obtain ⟨g1, g2, g3⟩ := hW.2.2.2 (by omega)
  have cl := (P.1 o o1 o2).1
  have l16 := P.2.2.2.1
  rw [e_189]
  unfold f_189 b_189_0
  rw [xg_91_1, hW.2.2.1, yg_8 g1, xg_91_0, xV_79, x_46 hW.1 P.2.1 o1 o2, bI_s, wya_8 g1 (by omega), g2 _ cl]
theorem x_190 (P : HWp T L b H) (hW : HWc T L q H s) (o1 : 1 ≤ o) (o2 : o ≤ H.1) (hi : i < fldT T L (H.2 o).1) : mjF (d + 2) 190 [.ref 91, .int (nI o), .int (nI i)] (mjW0 s) = some (some (.int (nI (hopN T L H o i))), mjW0 s) := by
  obtain ⟨g1, g2, g3⟩ := hW.2.2.2 (by omega)
  have cl := (P.1 o o1 o2).1
  have l16 := P.2.2.2.1
  have f3 := P.2.2.2.2.2 (H.2 o).1
  have b1 := P.2.1.1
  have b2' := P.2.1.2
  obtain ⟨h1, h2⟩ := hop_ok (T := T) (L := L) (H := H) (o := o) (i := i) P.1 (by omega) o1 o2
  rw [e_190]
  unfold f_190 b_190_0
  rw [xg_91_1, hW.2.2.1, xg_91_0, xV_79, x_46 hW.1 P.2.1 o1 o2, bI_s, yV g1, x_124 g1 (by omega) (by omega), bI_s, g3 _ cl i (by omega), b2_i]
  by_cases g : obT T L (H.2 o).1 i = true
  · rw [if_pos g, xg_91_0, xV_79, x_45 hW.1 P.2.1 o1 o2 hi, bI_s, h2 g]
  · rw [if_neg g]
    have : hopN T L H o i = 0 := if_neg g
    rw [this]
    rfl
/-- comeTo -/
theorem x_187 (W : WCr H Q s) (hQ : WOK H Q) (hb : H.1 ≤ 1334) (o1 : 1 ≤ o) (o2 : o ≤ H.1) (hp : (fo = 0 ∧ dd = 0) ∨ (1 ≤ fo ∧ fo ≤ H.1 ∧ ∃ p : Nat × Nat × Nat × Nat, Q[fi]? = some p ∧ p.1 = fo ∧ dd = p.2.2.2 + 1)) : ∃ s', mjF (d + 1) 187 [.ref 91, .int (nI o), .int (nI fo)] (mjW0 s) = some (none, mjW0 s') ∧ oWs s s' ∧ WCr H (wCome Q o fo fi dd) s' ∧ WOK H (wCome Q o fo fi dd) := by
  have hok : WOK H (wCome Q o fo fi dd) := hQ.come o1 o2 (hp.imp (fun h => h) (fun h => ⟨h.1, h.2.2⟩))
  have ln := hQ.len
  obtain ⟨w1, w2, w3, w4⟩ := W
  have pre : mjF (d + 1) 187 [.ref 91, .int (nI o), .int (nI fo)] (mjW0 s) = f_187 (mjF d) 91 (nI o) (nI fo) (mjW0 s) := e_187
  unfold f_187 b_187_0 at pre
  rw [xg_91_4, wa_93 (by omega)] at pre
  cases hi : inWb Q o with
  | true =>
    obtain ⟨x, x1, x2⟩ := inWb_iff.mp hi
    have v := w3 x x1
    rw [x2] at v
    have x3 : x.2.1 < 2 ^ 31 := by
      obtain ⟨k, hk⟩ := List.getElem?_of_mem x1
      rcases hQ.2.2 k x hk with h | ⟨_, _, p, p1, p2, _⟩
      · omega
      · have := hQ.2.1 p (List.mem_of_getElem? p1)
        omega
    rw [v, if_neg (nI_m1 x3)] at pre
    have ew : wCome Q o fo fi dd = Q := if_pos hi
    rw [ew] at hok ⊢
    exact ⟨s, pre, offG.rf, ⟨w1, w2, w3, w4⟩, hok⟩
  | false =>
    have nin : ¬ inW Q o := fun h => by rw [inWb_iff.mpr h] at hi; cases hi
    have ew : wCome Q o fo fi dd = Q ++ [(o, fo, fi, dd)] := if_neg (by rw [hi]; decide)
    rw [ew] at hok ⊢
    have ln2 := hok.len
    rw [List.length_append, List.length_singleton] at ln2
    obtain ⟨z1, g1⟩ : ∃ y, y = uI s 93 (upd (s.1 93) o (nI fo)) := ⟨_, rfl⟩
    obtain ⟨z2, g2⟩ : ∃ y, y = uI z1 92 (upd (z1.1 92) Q.length (nI o)) := ⟨_, rfl⟩
    obtain ⟨z3, g3⟩ : ∃ y, y = uI z2 91 (upd (z2.1 91) 3 (nI (Q.length + 1))) := ⟨_, rfl⟩
    have c1 : z1.1 91 3 = nI Q.length := by rw [g1, uI_ne _ _ _ _ (by decide)]; exact w1
    have c2 : z2.1 91 3 = nI Q.length := by rw [g2, uI_ne _ _ _ _ (by decide)]; exact c1
    have e93 : ∀ j, z3.1 93 j = if j = o then nI fo else s.1 93 j := fun j => by rw [g3, uI_ne _ _ _ _ (by decide), g2, uI_ne _ _ _ _ (by decide), g1, uI_same, upd_g]
    have e92 : ∀ j, z3.1 92 j = if j = Q.length then nI o else s.1 92 j := fun j => by rw [g3, uI_ne _ _ _ _ (by decide), g2, uI_same, upd_g, g1, uI_ne _ _ _ _ (by decide)]
    refine ⟨z3, ?_, offG.tr (b := z1) (by rw [g1]; exact oWs.w2 (by omega)) (offG.tr (b := z2) (by rw [g2]; exact oWs.w2 (by omega)) (by rw [g3]; exact oWs.w1)), ⟨?_, fun k e he => ?_, fun e he => ?_, fun y hy hn => ?_⟩, hok⟩
    · rw [w4 o o2 nin, if_pos rfl, xg_91_3, w1, xg_91_2, xN_92, if_neg (show ¬ Int32.ofNat 1335 ≤ nI Q.length from nI_ge (b := 1335) (by omega) (by decide)), xg_91_4, ws_93 (by omega), ← g1, xg_91_2, xg_91_3, c1, ws_92 (by omega), ← g2, xg_91_3, c2, nI_1, xp_91_3, ← g3] at pre
      exact pre
    · rw [g3, uI_same, upd_g, if_pos rfl, List.length_append, List.length_singleton]
    · by_cases kl : k < Q.length
      · rw [List.getElem?_append_left kl] at he
        rw [e92, if_neg (by omega)]
        exact w2 k e he
      · rw [List.getElem?_append_right (by omega)] at he
        have kl2 := (List.getElem?_eq_some_iff.mp he).1
        rw [List.length_singleton] at kl2
        rw [show k - Q.length = 0 by omega] at he
        have e' : (o, fo, fi, dd) = e := by simpa using he
        rw [← e', e92, if_pos (by omega)]
    · rcases List.mem_append.mp he with he | he
      · rw [e93, if_neg (fun x => nin ⟨e, he, x⟩)]
        exact w3 e he
      · have e' : e = (o, fo, fi, dd) := by simpa using he
        rw [e', e93, if_pos rfl]
    · have ne : ¬ y = o := fun x => hn ⟨(o, fo, fi, dd), List.mem_append_right _ (List.mem_singleton.mpr rfl), x.symm⟩
      rw [e93, if_neg ne]
      exact w4 y hy (fun ⟨x, x1, x2⟩ => hn ⟨x, List.mem_append_left _ x1, x2⟩)
theorem L188c_S (R : mjR) (n a : Nat) (x y u v : Int32) (hp : mjH) : L_188_9 R (n + 1) a x y u v hp = b_188_9 R (L_188_9 R n) a x y u v hp := rfl
theorem lq_188c (P : HWp T L b H) (hsh : sh ≤ H.1) : ∀ (r i m : Nat) (Q : WQ) (s : mjSt3), Q[k]? = some e → i + r = fldT T L (H.2 e.1).1 → r < m → HWc T L q H s → WCr H Q s → WOK H Q → ∃ s', L_188_9 (mjF (d + 2)) m 91 (nI e.1) (nI sh) (nI (fldT T L (H.2 e.1).1)) (nI i) (mjW0 s) = some (none, mjW0 s') ∧ oWs s s' ∧ WCr H (wSlots T L H sh e.1 k e.2.2.2 r i Q) s' ∧ WOK H (wSlots T L H sh e.1 k e.2.2.2 r i Q)
  | r, i, 0, Q, s, he, ei, hr, hW, W, hQ => by omega
  | 0, i, m + 1, Q, s, he, ei, hr, hW, W, hQ => by
    have f3 := P.2.2.2.2.2 (H.2 e.1).1
    refine ⟨s, ?_, offG.rf, W, hQ⟩
    rw [L188c_S]
    unfold b_188_9
    rw [if_pos (nI_le (by omega) (by omega))]
  | r + 1, i, m + 1, Q, s, he, ei, hr, hW, W, hQ => by
    have b1 := P.2.1.1
    have b2' := P.2.1.2
    obtain ⟨e1, e2⟩ := hQ.2.1 e (List.mem_of_getElem? he)
    have f3 := P.2.2.2.2.2 (H.2 e.1).1
    have il : i < fldT T L (H.2 e.1).1 := by omega
    obtain ⟨hh1, hh2⟩ := hop_ok (T := T) (L := L) (H := H) (o := e.1) (i := i) P.1 (by omega) e1 e2
    have st : wSlots T L H sh e.1 k e.2.2.2 (r + 1) i Q = wSlots T L H sh e.1 k e.2.2.2 r (i + 1) (wHop T L H sh e.1 k e.2.2.2 i Q) := rfl
    rw [L188c_S, st]
    unfold b_188_9 b_188_42
    rw [if_neg (nI_ge (by omega) (by omega)), xV_91, x_190 (d := d) P hW e1 e2 il, bI_s]
    by_cases c0 : hopN T L H e.1 i = 0
    · have ew : wHop T L H sh e.1 k e.2.2.2 i Q = Q := if_pos (Or.inl c0)
      rw [ew, c0, if_pos (show nI 0 = 0 from rfl), nI_1]
      exact lq_188c P hsh r (i + 1) m Q s he (by omega) (by omega) hW W hQ
    · rw [if_neg (nI_ne0 (by omega) (by omega))]
      by_cases c1 : hopN T L H e.1 i = sh
      · have ew : wHop T L H sh e.1 k e.2.2.2 i Q = Q := if_pos (Or.inr c1)
        rw [ew, if_pos (by rw [c1]), nI_1]
        exact lq_188c P hsh r (i + 1) m Q s he (by omega) (by omega) hW W hQ
      · have ew : wHop T L H sh e.1 k e.2.2.2 i Q = wCome Q (hopN T L H e.1 i) e.1 k (e.2.2.2 + 1) := if_neg (fun x => x.elim c0 c1)
        rw [ew, if_neg (fun x => c1 ((nI_eq (by omega) (by omega)).mp x)), xV_91]
        obtain ⟨s1, a1, a2, a3, a4⟩ := x_187 (d := d + 1) (fo := e.1) (fi := k) (dd := e.2.2.2 + 1) W hQ (by omega) (show 1 ≤ hopN T L H e.1 i by omega) hh1 (Or.inr ⟨e1, e2, e, he, rfl, rfl⟩)
        obtain ⟨R, eR⟩ := come_pre (Q := Q) (o := hopN T L H e.1 i) (fo := e.1) (fi := k) (d := e.2.2.2 + 1)
        obtain ⟨s2, d1, d2, d3, d4⟩ := lq_188c P hsh r (i + 1) m _ s1 (by rw [eR]; exact pre_at he) (by omega) (by omega) (hW.ws a2.toC) a3 a4
        refine ⟨s2, ?_, offG.tr a2 d2, d3, d4⟩
        rw [a1, bN_s, nI_1]
        exact d1
theorem L186q_S (R : mjR) (n a : Nat) (x y : Int32) (hp : mjH) : L_186_81 R (n + 1) a x y hp = b_186_81 R (L_186_81 R n) a x y hp := rfl
theorem lq_186q (P : HWp T L b H) (hsh : sh ≤ H.1) : ∀ (n k m : Nat) (Q : WQ) (s : mjSt3), n + k = H.1 + 1 → n < m → HWc T L q H s → WCr H Q s → WOK H Q → ∃ s', L_186_81 (mjF (d + 3)) m 91 (nI sh) (nI k) (mjW0 s) = some (none, mjW0 s') ∧ oWs s s' ∧ WCr H (wGo T L H sh n k Q) s' ∧ WOK H (wGo T L H sh n k Q)
  | n, k, 0, Q, s, en, hm, hW, W, hQ => by omega
  | 0, k, m + 1, Q, s, en, hm, hW, W, hQ => by
    have b1 := P.2.1.1
    have b2' := P.2.1.2
    refine ⟨s, ?_, offG.rf, W, hQ⟩
    rw [L186q_S]
    unfold b_186_81
    rw [xg_91_0, xg_79_2, hW.2.1, if_pos (nI_le (by omega) (by omega))]
  | n + 1, k, m + 1, Q, s, en, hm, hW, W, hQ => by
    have ln := hQ.len
    have b1 := P.2.1.1
    have b2' := P.2.1.2
    cases he : Q[k]? with
    | none =>
      have kl := List.getElem?_eq_none_iff.mp he
      have ew : wGo T L H sh (n + 1) k Q = Q := by
        show (match Q[k]? with
          | none => Q
          | some e => wGo T L H sh n (k + 1) (wSlots T L H sh e.1 k e.2.2.2 (fldT T L (H.2 e.1).1) 0 Q)) = Q
        rw [he]
      rw [ew]
      refine ⟨s, ?_, offG.rf, W, hQ⟩
      rw [L186q_S]
      unfold b_186_81
      rw [xg_91_0, xg_79_2, hW.2.1]
      by_cases g : H.1 ≤ k
      · rw [if_pos (nI_le g (by omega))]
      · rw [if_neg (nI_ge (by omega) (by omega)), xg_91_3, W.1, if_pos (nI_le (by omega) (by omega))]
    | some e =>
      have kl := (List.getElem?_eq_some_iff.mp he).1
      obtain ⟨e1, e2⟩ := hQ.2.1 e (List.mem_of_getElem? he)
      have f3 := P.2.2.2.2.2 (H.2 e.1).1
      have ew : wGo T L H sh (n + 1) k Q = wGo T L H sh n (k + 1) (wSlots T L H sh e.1 k e.2.2.2 (fldT T L (H.2 e.1).1) 0 Q) := by
        show (match Q[k]? with
          | none => Q
          | some e => wGo T L H sh n (k + 1) (wSlots T L H sh e.1 k e.2.2.2 (fldT T L (H.2 e.1).1) 0 Q)) = _
        rw [he]
      rw [ew]
      obtain ⟨s1, a1, a2, a3, a4⟩ := lq_188c (d := d) P hsh (fldT T L (H.2 e.1).1) 0 mjN Q s he (by omega) (by unfold mjN; omega) hW W hQ
      obtain ⟨s2, d1, d2, d3, d4⟩ := lq_186q P hsh n (k + 1) m _ s1 (by omega) (by omega) (hW.ws a2.toC) a3 a4
      refine ⟨s2, ?_, offG.tr a2 d2, d3, d4⟩
      have x188 : mjF (d + 3) 188 [.ref 91, .int (nI e.1), .int (nI sh)] (mjW0 s) = some (none, mjW0 s1) := by
        rw [e_188]
        unfold f_188 b_188_0
        rw [xV_91, x_189 (d := d) P hW e1 e2, bI_s]
        exact a1
      rw [L186q_S]
      unfold b_186_81
      rw [xg_91_0, xg_79_2, hW.2.1, if_neg (nI_ge (by omega) (by omega)), xg_91_3, W.1, if_neg (nI_ge (by omega) (by omega)), xg_91_2, wa_92 (by omega), W.2.1 k e he, xV_91, x188, bN_s, nI_1]
      exact d1
theorem L186r_S (R : mjR) (n a : Nat) (x y u : Int32) (hp : mjH) : L_186_35 R (n + 1) a x y u hp = b_186_35 R (L_186_35 R n) a x y u hp := rfl
theorem lq_186r (P : HWp T L b H) (hsh : sh ≤ H.1) : ∀ (r o m : Nat) (Q : WQ) (s : mjSt3), o + r = H.1 + 1 → 1 ≤ o → r < m → HWc T L q H s → WCr H Q s → WOK H Q → ∃ s', L_186_35 (mjF (d + 3)) m 91 0 (nI sh) (nI o) (mjW0 s) = some (none, mjW0 s') ∧ oWs s s' ∧ WCr H (wGo T L H sh (H.1 + 1) 0 (wRoots H sh r o Q)) s' ∧ WOK H (wGo T L H sh (H.1 + 1) 0 (wRoots H sh r o Q))
  | r, o, 0, Q, s, eo, o1, hm, hW, W, hQ => by omega
  | 0, o, m + 1, Q, s, eo, o1, hm, hW, W, hQ => by
    have b1 := P.2.1.1
    have b2' := P.2.1.2
    obtain ⟨s', a1, a2, a3, a4⟩ := lq_186q (d := d) P hsh (H.1 + 1) 0 mjN Q s (by omega) (by unfold mjN; omega) hW W hQ
    refine ⟨s', ?_, a2, a3, a4⟩
    rw [L186r_S]
    unfold b_186_35 b_186_79
    rw [xg_91_0, xg_79_2, hW.2.1, if_pos (nI_lt (by omega) (by omega))]
    exact a1
  | r + 1, o, m + 1, Q, s, eo, o1, hm, hW, W, hQ => by
    have b1 := P.2.1.1
    have b2' := P.2.1.2
    have ol := (P.1 o o1 (by omega)).2.1 0
    have st : wRoots H sh (r + 1) o Q = wRoots H sh r (o + 1) (wRoot H sh o Q) := rfl
    have x49 : mjF (d + 3) 49 [.ref 79, .int (nI o), .int 0] (mjW0 s) = some (some (.int (nI ((H.2 o).2.1 0))), mjW0 s) := x_49 (d := d + 2) (i := 0) hW.1 P.2.1 o1 (by omega) (P.n1 o1 (by omega))
    have pre : L_186_35 (mjF (d + 3)) (m + 1) 91 0 (nI sh) (nI o) (mjW0 s) = (if nI ((H.2 o).2.1 0) = 0 then (if nI o = nI sh then L_186_35 (mjF (d + 3)) m 91 0 (nI sh) (nI (o + 1)) (mjW0 s) else bN (mjF (d + 3) 187 [.ref 91, .int (nI o), .int 0] (mjW0 s)) (fun hp6 => L_186_35 (mjF (d + 3)) m 91 0 (nI sh) (nI (o + 1)) hp6)) else L_186_35 (mjF (d + 3)) m 91 0 (nI sh) (nI (o + 1)) (mjW0 s)) := by
      rw [L186r_S]
      unfold b_186_35 b_186_73
      rw [xg_91_0, xg_79_2, hW.2.1, if_neg (nI_nlt (by omega) (by omega)), if_pos rfl, xg_91_0, xV_79, x49, bI_s, nI_1, xV_91]
    rw [pre, st]
    by_cases g : (H.2 o).2.1 0 = 0 ∧ ¬ o = sh
    · have ew : wRoot H sh o Q = wCome Q o 0 0 0 := if_pos g
      rw [ew, if_pos (by rw [g.1]; rfl), if_neg (fun x => g.2 ((nI_eq (by omega) (by omega)).mp x))]
      obtain ⟨s1, a1, a2, a3, a4⟩ := x_187 (d := d + 2) (fo := 0) (fi := 0) (dd := 0) W hQ (by omega) o1 (by omega) (Or.inl ⟨rfl, rfl⟩)
      have a1' : mjF (d + 3) 187 [.ref 91, .int (nI o), .int 0] (mjW0 s) = some (none, mjW0 s1) := a1
      obtain ⟨s2, d1, d2, d3, d4⟩ := lq_186r P hsh r (o + 1) m _ s1 (by omega) (by omega) (by omega) (hW.ws a2.toC) a3 a4
      exact ⟨s2, by rw [a1', bN_s]; exact d1, offG.tr a2 d2, d3, d4⟩
    · have ew : wRoot H sh o Q = Q := if_neg g
      rw [ew]
      have ih := lq_186r P hsh r (o + 1) m Q s (by omega) (by omega) (by omega) hW W hQ
      by_cases g0 : (H.2 o).2.1 0 = 0
      · have g1 : o = sh := Classical.byContradiction (fun x => g ⟨g0, x⟩)
        rw [if_pos (by rw [g0]; rfl), if_pos (by rw [g1])]
        exact ih
      · rw [if_neg (nI_ne0 (by omega) (by omega))]
        exact ih
/-- nothing is come to yet -/
theorem x_186p (hb : H.1 ≤ 1334) (h79 : s.1 79 2 = nI H.1) : ∃ s', (∀ (R : mjR) (l1 l2 : Int32), (∀ (v : Nat) (hp : mjH), R 379 [.ref v, .int 0, .int (nI (H.1 + 1)), .int (-1)] hp = mjF (d + 2) 379 [.ref v, .int (nI 0), .int (nI (H.1 + 1)), .int (-1)] hp) → b_186_0 R 91 l1 l2 (mjW0 s) = (if l1 = 0 then b_186_33 R 91 l1 l2 (mjW0 s') else rV (mjW0 s') 91 10 (bN (R 187 [.ref 91, .int l1, .int (0 : Int32)] (mjW0 s')) (fun hp6 => b_186_33 R 91 l1 l2 hp6)))) ∧ oWs s s' ∧ WCr H [] s' := by
  obtain ⟨z1, g1⟩ : ∃ y, y = uI s 91 (upd (s.1 91) 3 0) := ⟨_, rfl⟩
  obtain ⟨z2, g2⟩ : ∃ y, y = uI z1 93 (fillF (z1.1 93) 0 (H.1 + 1) (-1)) := ⟨_, rfl⟩
  have c1 : z1.1 79 2 = nI H.1 := by rw [g1, uI_ne _ _ _ _ (by decide)]; exact h79
  refine ⟨z2, fun R l1 l2 hR => ?_, offG.tr (b := z1) (by rw [g1]; exact oWs.w1) (by rw [g2]; exact oWs.w2 (by omega)), ⟨?_, fun k e he => (by cases he), fun e he => (by cases he), fun o ho _ => ?_⟩⟩
  · unfold b_186_0
    rw [xp_91_3, ← g1, xg_91_4, xg_91_0, xg_79_2, c1, nI_1, hR, q_379 tT_93 (by decide) (by omega) (by omega), bN_s, ← g2]
  · rw [g2, uI_ne _ _ _ _ (by decide), g1, uI_same, upd_g, if_pos rfl]; rfl
  · rw [g2, uI_same]
    show (if 0 ≤ o ∧ o < H.1 + 1 then (-1 : Int32) else z1.1 93 o) = -1
    rw [if_pos ⟨Nat.zero_le _, by omega⟩]
/-- spread from all ROOTS but one -/
theorem x_186R (P : HWp T L b H) (hsh : sh ≤ H.1) (hW : HWc T L q H s) : ∃ s', mjF (d + 4) 186 [.ref 91, .int 0, .int (nI sh)] (mjW0 s) = some (none, mjW0 s') ∧ oWs s s' ∧ WCr H (walkR T L H sh) s' ∧ WOK H (walkR T L H sh) := by
  have b1 := P.2.1.1
  have b2' := P.2.1.2
  obtain ⟨s1, c1, c2, c3⟩ := x_186p (d := d + 1) (H := H) (s := s) (by omega) hW.2.1
  obtain ⟨s', a1, a2, a3, a4⟩ := lq_186r (d := d) P hsh H.1 1 mjN [] s1 (by omega) (by omega) (by unfold mjN; omega) (hW.ws c2.toC) c3 WOK.nil
  refine ⟨s', ?_, offG.tr c2 a2, a3, a4⟩
  rw [e_186]
  unfold f_186
  rw [c1 (mjF (d + 3)) 0 (nI sh) (fun v hp => rfl), if_pos rfl]
  unfold b_186_33
  exact a1
/-- spread from an OBJECT -/
theorem x_186O (P : HWp T L b H) (o1 : 1 ≤ o) (o2 : o ≤ H.1) (hW : HWc T L q H s) : ∃ s', mjF (d + 4) 186 [.ref 91, .int (nI o), .int 0] (mjW0 s) = some (none, mjW0 s') ∧ oWs s s' ∧ WCr H (walkO T L H o) s' ∧ WOK H (walkO T L H o) := by
  have b1 := P.2.1.1
  have b2' := P.2.1.2
  obtain ⟨s1, c1, c2, c3⟩ := x_186p (d := d + 1) (H := H) (s := s) (by omega) hW.2.1
  obtain ⟨s2, e1, e2, e3, e4⟩ := x_187 (d := d + 2) (fo := 0) (fi := 0) (dd := 0) c3 WOK.nil (by omega) o1 o2 (Or.inl ⟨rfl, rfl⟩)
  have ew : wCome [] o 0 0 0 = [(o, 0, 0, 0)] := rfl
  rw [ew] at e3 e4
  have e1' : mjF (d + 3) 187 [.ref 91, .int (nI o), .int 0] (mjW0 s1) = some (none, mjW0 s2) := e1
  have hW2 := (hW.ws c2.toC).ws e2.toC
  obtain ⟨s3, f1, f2, f3, f4⟩ := lq_186q (d := d) (sh := 0) P (Nat.zero_le _) (H.1 + 1) 0 mjN _ s2 (by omega) (by unfold mjN; omega) hW2 e3 e4
  refine ⟨s3, ?_, offG.tr c2 (offG.tr e2 f2), f3, f4⟩
  rw [e_186]
  unfold f_186
  rw [c1 (mjF (d + 3)) (nI o) 0 (fun v hp => rfl), if_neg (nI_ne0 (by omega) (by omega)), xV_91, e1', bN_s]
  unfold b_186_33
  rw [show mjN = 99999999 + 1 from rfl, L186r_S]
  unfold b_186_35 b_186_79
  rw [xg_91_0, xg_79_2, hW2.2.1]
  have : (if nI H.1 < 1 then L_186_81 (mjF (d + 3)) mjN 91 0 0 (mjW0 s2) else if nI o = 0 then gR (mjW0 s2) 91 10 0 (fun v3 => rV (mjW0 s2) v3 3 (bI (mjF (d + 3) 49 [.ref v3, .int 1, .int (0 : Int32)] (mjW0 s2)) (fun v4 hp5 => (if v4 = 0 then (if (1 : Int32) = 0 then b_186_73 (mjF (d + 3)) (L_186_35 (mjF (d + 3)) 99999999) 91 (nI o) 0 1 hp5 else rV hp5 91 10 (bN (mjF (d + 3) 187 [.ref 91, .int 1, .int (0 : Int32)] hp5) (fun hp6 => b_186_73 (mjF (d + 3)) (L_186_35 (mjF (d + 3)) 99999999) 91 (nI o) 0 1 hp6))) else b_186_73 (mjF (d + 3)) (L_186_35 (mjF (d + 3)) 99999999) 91 (nI o) 0 1 hp5)))) else L_186_81 (mjF (d + 3)) mjN 91 0 0 (mjW0 s2)) = some (none, mjW0 s3) := by
    rw [if_neg (show ¬ nI H.1 < 1 from nI_nlt (b := 1) (by omega) (by omega)), if_neg (nI_ne0 (by omega) (by omega))]
    exact f1
  exact this
end MJB94
end
section
/-! ===== what is come to is closed; HOPS; past ===== -/
section MJB95
variable {T : TT} {d b q o fo fi dd sh k i n m c x : Nat} {L : List CD} {H : HEAP} {Q : WQ} {s s' : mjSt3} {e : Nat × Nat × Nat × Nat} {a v : Int32}
theorem inW.app {R : WQ} (h : inW Q x) : inW (Q ++ R) x := by
  obtain ⟨y, y1, y2⟩ := h
  exact ⟨y, List.mem_append_left _ y1, y2⟩
theorem hop_pre : ∃ R, wHop T L H sh fo fi dd i Q = Q ++ R := by
  unfold wHop
  by_cases g : hopN T L H fo i = 0 ∨ hopN T L H fo i = sh
  · rw [if_pos g]; exact ⟨[], (List.append_nil Q).symm⟩
  · rw [if_neg g]; exact come_pre
theorem slots_pre : ∀ (r i : Nat) (Q : WQ), ∃ R, wSlots T L H sh fo fi dd r i Q = Q ++ R
  | 0, i, Q => ⟨[], (List.append_nil Q).symm⟩
  | r + 1, i, Q => by
    obtain ⟨R1, e1⟩ := hop_pre (T := T) (L := L) (H := H) (sh := sh) (fo := fo) (fi := fi) (dd := dd) (i := i) (Q := Q)
    obtain ⟨R2, e2⟩ := slots_pre r (i + 1) (wHop T L H sh fo fi dd i Q)
    refine ⟨R1 ++ R2, ?_⟩
    show wSlots T L H sh fo fi dd r (i + 1) (wHop T L H sh fo fi dd i Q) = _
    rw [e2, e1, List.append_assoc]
/-- every HOP of an OBJECT -/
theorem slots_in : ∀ (r i : Nat) (Q : WQ) (j : Nat), i ≤ j → j < i + r → hopN T L H fo j = 0 ∨ hopN T L H fo j = sh ∨ inW (wSlots T L H sh fo fi dd r i Q) (hopN T L H fo j)
  | 0, i, Q, j, h1, h2 => by omega
  | r + 1, i, Q, j, h1, h2 => by
    show _ ∨ _ ∨ inW (wSlots T L H sh fo fi dd r (i + 1) (wHop T L H sh fo fi dd i Q)) (hopN T L H fo j)
    by_cases e : j = i
    · rw [e]
      by_cases g : hopN T L H fo i = 0
      · exact Or.inl g
      · by_cases g2 : hopN T L H fo i = sh
        · exact Or.inr (Or.inl g2)
        · refine Or.inr (Or.inr ?_)
          obtain ⟨R, eR⟩ := slots_pre (T := T) (L := L) (H := H) (sh := sh) (fo := fo) (fi := fi) (dd := dd) r (i + 1) (wHop T L H sh fo fi dd i Q)
          rw [eR]
          refine inW.app ?_
          unfold wHop
          rw [if_neg (fun y => y.elim g g2)]
          exact come_in
    · exact slots_in r (i + 1) _ j (by omega) (by omega)
def clsQ (T : TT) (L : List CD) (H : HEAP) (sh : Nat) (Q : WQ) (k : Nat) : Prop := ∀ (j : Nat) (e : Nat × Nat × Nat × Nat), j < k → Q[j]? = some e → ∀ i, i < fldT T L (H.2 e.1).1 → hopN T L H e.1 i = 0 ∨ hopN T L H e.1 i = sh ∨ inW Q (hopN T L H e.1 i)
theorem cls_go (hsh : sh ≤ H.1) (P : HWp T L b H) : ∀ (n k : Nat) (Q : WQ), n + k = H.1 + 1 → WOK H Q → clsQ T L H sh Q k → (∀ e, e ∈ wGo T L H sh n k Q → ∀ i, i < fldT T L (H.2 e.1).1 → hopN T L H e.1 i = 0 ∨ hopN T L H e.1 i = sh ∨ inW (wGo T L H sh n k Q) (hopN T L H e.1 i)) ∧ WOK H (wGo T L H sh n k Q) ∧ ∃ R, wGo T L H sh n k Q = Q ++ R
  | 0, k, Q, en, hQ, hc => by
    refine ⟨fun e he => ?_, hQ, [], (List.append_nil Q).symm⟩
    obtain ⟨j, hj⟩ := List.getElem?_of_mem (show e ∈ Q from he)
    have jl := (List.getElem?_eq_some_iff.mp hj).1
    have ln := hQ.len
    exact hc j e (by omega) hj
  | n + 1, k, Q, en, hQ, hc => by
    have ln := hQ.len
    cases he : Q[k]? with
    | none =>
      have kl := List.getElem?_eq_none_iff.mp he
      have ew : wGo T L H sh (n + 1) k Q = Q := by
        show (match Q[k]? with
          | none => Q
          | some e => wGo T L H sh n (k + 1) (wSlots T L H sh e.1 k e.2.2.2 (fldT T L (H.2 e.1).1) 0 Q)) = Q
        rw [he]
      rw [ew]
      refine ⟨fun e he => ?_, hQ, [], (List.append_nil Q).symm⟩
      obtain ⟨j, hj⟩ := List.getElem?_of_mem he
      have jl := (List.getElem?_eq_some_iff.mp hj).1
      exact hc j e (by omega) hj
    | some e =>
      have ew : wGo T L H sh (n + 1) k Q = wGo T L H sh n (k + 1) (wSlots T L H sh e.1 k e.2.2.2 (fldT T L (H.2 e.1).1) 0 Q) := by
        show (match Q[k]? with
          | none => Q
          | some e => wGo T L H sh n (k + 1) (wSlots T L H sh e.1 k e.2.2.2 (fldT T L (H.2 e.1).1) 0 Q)) = _
        rw [he]
      rw [ew]
      obtain ⟨R, eR⟩ := slots_pre (T := T) (L := L) (H := H) (sh := sh) (fo := e.1) (fi := k) (dd := e.2.2.2) (fldT T L (H.2 e.1).1) 0 Q
      have hok : ∀ (r i : Nat) (Q : WQ), Q[k]? = some e → WOK H Q → WOK H (wSlots T L H sh e.1 k e.2.2.2 r i Q) := by
        intro r
        induction r with
        | zero => exact fun i Q _ h => h
        | succ r ih =>
          intro i Q hk h
          show WOK H (wSlots T L H sh e.1 k e.2.2.2 r (i + 1) (wHop T L H sh e.1 k e.2.2.2 i Q))
          obtain ⟨e1, e2⟩ := h.2.1 e (List.mem_of_getElem? hk)
          have b1 := P.2.1.1
          have b2' := P.2.1.2
          have hh := (hop_ok (T := T) (L := L) (H := H) (o := e.1) (i := i) P.1 (by omega) e1 e2).1
          obtain ⟨R, eR⟩ := hop_pre (T := T) (L := L) (H := H) (sh := sh) (fo := e.1) (fi := k) (dd := e.2.2.2) (i := i) (Q := Q)
          refine ih (i + 1) _ (by rw [eR]; exact pre_at hk) ?_
          unfold wHop
          by_cases g : hopN T L H e.1 i = 0 ∨ hopN T L H e.1 i = sh
          · rw [if_pos g]; exact h
          · rw [if_neg g]
            exact h.come (by
              by_cases z : hopN T L H e.1 i = 0
              · exact absurd (Or.inl z) g
              · omega) hh (Or.inr ⟨e1, e, hk, rfl, rfl⟩)
      obtain ⟨c1, c2, R2, c3⟩ := cls_go hsh P n (k + 1) (wSlots T L H sh e.1 k e.2.2.2 (fldT T L (H.2 e.1).1) 0 Q) (by omega) (hok _ _ _ he hQ) (fun j y hj hy i hi => by
        by_cases q : j = k
        · rw [q, eR, pre_at he] at hy
          have ey := Option.some.inj hy
          rw [← ey] at hi ⊢
          exact slots_in _ _ _ i (by omega) (by omega)
        · have hy' : Q[j]? = some y := by
            rw [eR, List.getElem?_append_left (by have := (List.getElem?_eq_some_iff.mp he).1; omega)] at hy
            exact hy
          rcases hc j y (by omega) hy' i hi with h | h | h
          · exact Or.inl h
          · exact Or.inr (Or.inl h)
          · exact Or.inr (Or.inr (by rw [eR]; exact h.app)))
      exact ⟨c1, c2, R ++ R2, by rw [c3, eR, List.append_assoc]⟩
theorem roots_ok (P : HWp T L b H) : ∀ (r o : Nat) (Q : WQ), o + r = H.1 + 1 → 1 ≤ o → WOK H Q → WOK H (wRoots H sh r o Q)
  | 0, o, Q, _, _, h => h
  | r + 1, o, Q, eo, o1, h => by
    show WOK H (wRoots H sh r (o + 1) (wRoot H sh o Q))
    refine roots_ok P r (o + 1) _ (by omega) (by omega) ?_
    unfold wRoot
    by_cases g : (H.2 o).2.1 0 = 0 ∧ ¬ o = sh
    · rw [if_pos g]; exact h.come o1 (by omega) (Or.inl ⟨rfl, rfl⟩)
    · rw [if_neg g]; exact h
/-- from all ROOTS but one: closed -/
theorem walkR_cl (P : HWp T L b H) (hsh : sh ≤ H.1) (he : e ∈ walkR T L H sh) (hi : i < fldT T L (H.2 e.1).1) : hopN T L H e.1 i = 0 ∨ hopN T L H e.1 i = sh ∨ inW (walkR T L H sh) (hopN T L H e.1 i) := (cls_go hsh P (H.1 + 1) 0 (wRoots H sh H.1 1 []) (by omega) (roots_ok P H.1 1 [] (by omega) (by omega) WOK.nil) (fun j y hj _ => absurd hj (Nat.not_lt_zero j))).1 e he i hi
theorem L191_S (R : mjR) (n a : Nat) (x y : Int32) (hp : mjH) : L_191_9 R (n + 1) a x y hp = b_191_9 R (L_191_9 R n) a x y hp := rfl
theorem lq_191 (R : mjR) (hb : H.1 ≤ 1334) (h79 : s.1 79 2 = nI H.1) (W : WCr H Q s) (hQ : WOK H Q) : ∀ (n k m h : Nat) (e : Nat × Nat × Nat × Nat), k ≤ n → n < m → h + k ≤ H.1 → Q[k]? = some e → L_191_9 R m 91 (nI h) (nI e.2.1) (mjW0 s) = some (some (.int (nI (h + e.2.2.2))), mjW0 s)
  | n, k, 0, h, e, hk, hm, hh, he => by omega
  | n, k, m + 1, h, e, hk, hm, hh, he => by
    have ln := hQ.len
    have kl := (List.getElem?_eq_some_iff.mp he).1
    rw [L191_S]
    unfold b_191_9 b_191_37
    rcases hQ.2.2 k e he with ⟨h1, h2⟩ | ⟨h0, h1, p, p1, p2, p3⟩
    · rw [h1, if_pos (show nI 0 ≤ (0 : Int32) by decide), h2]
      rfl
    · have pm := List.mem_of_getElem? p1
      have pr := hQ.2.1 p pm
      cases n with
      | zero => omega
      | succ n =>
        have ih := lq_191 R hb h79 W hQ n e.2.2.1 m (h + 1) p (by omega) (by omega) (by omega) p1
        rw [if_neg (nI_nle (by omega) (by omega)), xg_91_0, xg_79_2, h79, if_neg (nI_nlt (by omega) (by omega)), xg_91_4, wa_93 (by omega), ← p2, W.2.2.1 p pm, nI_1, ih, p3, show h + 1 + p.2.2.2 = h + (p.2.2.2 + 1) by omega]
/-- hopsTo -/
theorem x_191 (hb : H.1 ≤ 1334) (h79 : s.1 79 2 = nI H.1) (W : WCr H Q s) (hQ : WOK H Q) (he : Q[k]? = some e) : mjF (d + 1) 191 [.ref 91, .int (nI e.1)] (mjW0 s) = some (some (.int (nI e.2.2.2)), mjW0 s) := by
  have ln := hQ.len
  have kl := (List.getElem?_eq_some_iff.mp he).1
  have em := List.mem_of_getElem? he
  have er := hQ.2.1 e em
  have l := lq_191 (mjF d) hb h79 W hQ k k mjN 0 e (Nat.le_refl _) (by unfold mjN; omega) (by omega) he
  rw [Nat.zero_add] at l
  rw [e_191]
  unfold f_191 b_191_0
  rw [xg_91_4, wa_93 (by omega), W.2.2.1 e em]
  exact l
theorem x_191n (hb : H.1 ≤ 1334) (W : WCr H Q s) (o2 : o ≤ H.1) (hn : ¬ inW Q o) : mjF (d + 1) 191 [.ref 91, .int (nI o)] (mjW0 s) = some (some (.int 0), mjW0 s) := by
  rw [e_191]
  unfold f_191 b_191_0
  rw [xg_91_4, wa_93 (by omega), W.2.2.2 o o2 hn, show mjN = 99999999 + 1 from rfl, L191_S]
  unfold b_191_9 b_191_37
  rw [if_pos (show (-1 : Int32) ≤ 0 by decide)]
/-- hopsBetween -/
theorem x_185 (P : HWp T L b H) (hW : HWc T L q H s) (o1 : 1 ≤ o) (o2 : o ≤ H.1) (hc2 : c ≤ H.1) : ∃ s' v, mjF (d + 5) 185 [.ref 91, .int (nI o), .int (nI c)] (mjW0 s) = some (some (.int v), mjW0 s') ∧ oWs s s' ∧ ((v = -1 ∧ ¬ inW (walkO T L H o) c) ∨ ∃ (k : Nat) (e : Nat × Nat × Nat × Nat), (walkO T L H o)[k]? = some e ∧ e.1 = c ∧ v = nI e.2.2.2) := by
  have b1 := P.2.1.1
  have b2' := P.2.1.2
  obtain ⟨s1, a1, a2, a3, a4⟩ := x_186O (d := d) P o1 o2 hW
  have pre : mjF (d + 5) 185 [.ref 91, .int (nI o), .int (nI c)] (mjW0 s) = (if s1.1 93 c = -1 then some (some (.int (-1)), mjW0 s1) else rV (mjW0 s1) 91 10 (bI (mjF (d + 4) 191 [.ref 91, .int (nI c)] (mjW0 s1)) (fun v4 hp5 => some (some (.int v4), hp5)))) := by
    rw [e_185]
    unfold f_185 b_185_0
    rw [xV_91, a1, bN_s, xg_91_4, wa_93 (by omega)]
  by_cases g : inW (walkO T L H o) c
  · obtain ⟨y, y1, y2⟩ := g
    obtain ⟨k, hk⟩ := List.getElem?_of_mem y1
    have v93 := a3.2.2.1 y y1
    rw [y2] at v93
    have x3 : y.2.1 < 2 ^ 31 := by
      rcases a4.2.2 k y hk with h | ⟨_, _, p, p1, p2, _⟩
      · omega
      · have := a4.2.1 p (List.mem_of_getElem? p1)
        omega
    have x191 := x_191 (d := d + 3) (by omega) (hW.ws a2.toC).2.1 a3 a4 hk
    rw [y2] at x191
    refine ⟨s1, nI y.2.2.2, ?_, a2, Or.inr ⟨k, y, hk, y2, rfl⟩⟩
    rw [pre, v93, if_neg (nI_m1 x3), xV_91, x191, bI_s]
  · refine ⟨s1, -1, ?_, a2, Or.inl ⟨rfl, g⟩⟩
    rw [pre, a3.2.2.2 c hc2 g, if_pos rfl]
theorem L197_S (R : mjR) (n a : Nat) (x y u : Int32) (hp : mjH) : L_197_20 R (n + 1) a x y u hp = b_197_20 R (L_197_20 R n) a x y u hp := rfl
/-- isLeak answers -/
theorem lq_197 (R : mjR) (hb : H.1 ≤ 1334) (h79 : s.1 79 2 = nI H.1) (N9 : ∀ o, o ≤ H.1 → s.1 94 o = -1 ∨ ∃ a, a ≤ H.1 ∧ s.1 94 o = nI a) : ∀ (r k m : Nat) (w x : Int32), k + r = H.1 + 1 → r < m → (x = -1 ∨ ∃ a, a ≤ H.1 ∧ x = nI a) → ∃ v : Bool, L_197_20 R m 91 w x (nI k) (mjW0 s) = some (some (.int (b2 v)), mjW0 s)
  | r, k, 0, w, x, e, hm, hx => by omega
  | r, k, m + 1, w, x, e, hm, hx => by
    have fin : ∃ v : Bool, b_197_54 R w x (mjW0 s) = some (some (.int (b2 v)), mjW0 s) := by
      unfold b_197_54 b_197_66
      by_cases g1 : w = 0
      · exact ⟨false, by rw [if_pos g1]; rfl⟩
      · rw [if_neg g1]
        by_cases g2 : x = 0
        · exact ⟨true, by rw [if_pos g2]; rfl⟩
        · exact ⟨false, by rw [if_neg g2]; rfl⟩
    rw [L197_S]
    unfold b_197_20
    rw [xg_91_0, xg_79_2, h79]
    by_cases g1 : nI H.1 < nI k
    · rw [if_pos g1]; exact fin
    · rw [if_neg g1]
      by_cases g2 : x ≤ 0
      · rw [if_pos g2]; exact fin
      · rw [if_neg g2]
        by_cases g3 : x = w
        · rw [if_pos g3]; exact fin
        · rcases hx with hx | ⟨y, y1, y2⟩
          · rw [hx] at g2
            exact absurd (show (-1 : Int32) ≤ 0 by decide) g2
          · cases r with
            | zero => exact absurd (nI_lt (show H.1 < k by omega) (by omega)) g1
            | succ r =>
              rw [if_neg g3, xg_91_6, y2, wa_94 (by omega), nI_1]
              exact lq_197 R hb h79 N9 r (k + 1) m w _ (by omega) (by omega) (N9 y y1)
theorem x_197 (P : HWp T L b H) (hW : HWc T L q H s) (N9 : ∀ o, o ≤ H.1 → s.1 94 o = -1 ∨ ∃ a, a ≤ H.1 ∧ s.1 94 o = nI a) (o1 : 1 ≤ o) (o2 : o ≤ H.1) : ∃ v : Bool, mjF (d + 2) 197 [.ref 91, .int (nI o)] (mjW0 s) = some (some (.int (b2 v)), mjW0 s) := by
  have b1 := P.2.1.1
  have b2' := P.2.1.2
  have x49 : mjF (d + 1) 49 [.ref 79, .int (nI o), .int 0] (mjW0 s) = some (some (.int (nI ((H.2 o).2.1 0))), mjW0 s) := x_49 (d := d) (i := 0) hW.1 P.2.1 o1 o2 (P.n1 o1 o2)
  obtain ⟨v, l⟩ := lq_197 (mjF (d + 1)) (show H.1 ≤ 1334 by omega) hW.2.1 N9 (H.1 + 1) 0 mjN (nI ((H.2 o).2.1 0)) (s.1 94 o) (by omega) (by unfold mjN; omega) (N9 o o2)
  refine ⟨v, ?_⟩
  rw [e_197]
  unfold f_197 b_197_0
  rw [xg_91_0, xV_79, x49, bI_s, xg_91_6, wa_94 (by omega)]
  exact l
theorem L200_S (R : mjR) (n a : Nat) (x y u : Int32) (hp : mjH) : L_200_51 R (n + 1) a x y u hp = b_200_51 R (L_200_51 R n) a x y u hp := rfl
theorem lq_200 (R : mjR) (hb : H.1 ≤ 1334) (W : WCr H Q s) (hQ : WOK H Q) (hx : x ≤ 4000) : ∀ (n k m : Nat) (e : Nat × Nat × Nat × Nat), k < n → n < m → Q[k]? = some e → L_200_51 R m 91 (nI x) (nI e.1) (nI e.2.2.2) (mjW0 s) = some (some (.int (nI (upQ Q x n k))), mjW0 s)
  | n, k, 0, e, hk, hm, he => by omega
  | 0, k, m + 1, e, hk, hm, he => by omega
  | n + 1, k, m + 1, e, hk, hm, he => by
    have ln := hQ.len
    have kl := (List.getElem?_eq_some_iff.mp he).1
    have ds := hQ.dist k k e (Nat.le_refl _) he
    have em := List.mem_of_getElem? he
    have er := hQ.2.1 e em
    rw [L200_S, upQ_at he]
    unfold b_200_51
    by_cases g : e.2.2.2 ≤ x
    · rw [if_pos (nI_le g (by omega)), if_pos g]
    · rw [if_neg (nI_ge (by omega) (by omega)), if_neg g, xg_91_4, wa_93 (by omega), W.2.2.1 e em]
      rcases hQ.2.2 k e he with ⟨_, h⟩ | ⟨h0, h1, p, p1, p2, p3⟩
      · omega
      · rw [← p2, p3, nI_m]
        exact lq_200 R hb W hQ hx n e.2.2.1 m p (by omega) (by omega) p1
end MJB95
end
section
/-! ===== a row copied into another ===== -/
section MJB96A
variable {s : mjSt3} {m : Nat} {k : mjH → mjU}
theorem row_93 : (mjW0 s)[93]? = some (.inl (0, 1335, .inl (s.1 93))) := by
  unfold mjW0
  rw [mjHT_get, tT_93]
  rfl
theorem row_94 : (mjW0 s)[94]? = some (.inl (0, 1335, .inl (s.1 94))) := by
  unfold mjW0
  rw [mjHT_get, tT_94]
  rfl
theorem cp_94 (h : m ≤ 1335) : cpY (mjW0 s) 93 0 94 0 (nI m) k = k (mjW0 (uI s 94 (va_cpy (s.1 93) (s.1 94) 0 0 m))) := by
  have z0 : (0 : Int32).toNatClampNeg = 0 := rfl
  have zm : (nI m).toNatClampNeg = m := nI_clamp (by omega)
  have c : ((0 : Nat) == 0 && (0 : Nat) == 0 && !decide ((0 : Int32) < 0) && !decide ((0 : Int32) < 0) && !decide (nI m < 0) && decide ((0 : Int32).toNatClampNeg + (nI m).toNatClampNeg ≤ 1335) && decide ((0 : Int32).toNatClampNeg + (nI m).toNatClampNeg ≤ 1335)) = true := by
    rw [zm, z0, decide_eq_false (nI_pos (show m < 2 ^ 31 by omega)), decide_eq_true (show 0 + m ≤ 1335 by omega)]
    rfl
  have st : (mjW0 s).set 94 (.inl (0, 1335, .inl (va_cpy (s.1 93) (s.1 94) 0 0 m))) = mjW0 (uI s 94 (va_cpy (s.1 93) (s.1 94) 0 0 m)) := by
    have := mjHT_set (T := T_0) (s := s) (s' := uI s 94 (va_cpy (s.1 93) (s.1 94) 0 0 m)) tT_94 (fun h' e => ⟨uI_ne _ _ _ _ e, rfl, rfl⟩)
    have e2 : tc (uI s 94 (va_cpy (s.1 93) (s.1 94) 0 0 m)) 94 (.inl (0, 1335, false)) = .inl (0, 1335, .inl (va_cpy (s.1 93) (s.1 94) 0 0 m)) := by
      show (Sum.inl (0, 1335, .inl ((uI s 94 (va_cpy (s.1 93) (s.1 94) 0 0 m)).1 94)) : va_E) = _
      rw [uI_same]
    rw [e2] at this
    exact this
  unfold cpY
  rw [row_93, row_94]
  dsimp only
  rw [c]
  dsimp only
  rw [zm, z0, st]
end MJB96A
end
section
/-! ===== the walk: the least that holds the ROOTS and is closed; whence each was come to ===== -/
/-- x shut, v is come to -/
def RA (T : TT) (L : List CD) (H : HEAP) (x v : Nat) : Prop := inW (walkR T L H x) v
def allQ (p : Nat → Nat → Prop) (Q : WQ) : Prop := ∀ e, e ∈ Q → p e.1 e.2.1
section MJB96B
variable {T : TT} {b o fo fi dd sh k i n x v : Nat} {L : List CD} {H : HEAP} {Q : WQ} {e : Nat × Nat × Nat × Nat} {p : Nat → Nat → Prop}
theorem all_come (h : allQ p Q) (ho : p o fo) : allQ p (wCome Q o fo fi dd) := by
  unfold wCome
  by_cases g : inWb Q o = true
  · rw [if_pos g]; exact h
  · rw [if_neg g]
    intro e he
    rcases List.mem_append.mp he with he | he
    · exact h e he
    · have e' : e = (o, fo, fi, dd) := by simpa using he
      rw [e']
      exact ho
theorem all_slots : ∀ (r i : Nat) (Q : WQ), allQ p Q → (∀ j, i ≤ j → j < i + r → ¬ hopN T L H fo j = 0 → ¬ hopN T L H fo j = sh → p (hopN T L H fo j) fo) → allQ p (wSlots T L H sh fo fi dd r i Q)
  | 0, i, Q, h, _ => h
  | r + 1, i, Q, h, hj => by
    show allQ p (wSlots T L H sh fo fi dd r (i + 1) (wHop T L H sh fo fi dd i Q))
    refine all_slots r (i + 1) _ ?_ (fun j h1 h2 => hj j (by omega) (by omega))
    unfold wHop
    by_cases g : hopN T L H fo i = 0 ∨ hopN T L H fo i = sh
    · rw [if_pos g]; exact h
    · rw [if_neg g]
      exact all_come h (hj i (by omega) (by omega) (fun y => g (Or.inl y)) (fun y => g (Or.inr y)))
theorem all_go (hp : ∀ o f, p o f → ∀ i, i < fldT T L (H.2 o).1 → ¬ hopN T L H o i = 0 → ¬ hopN T L H o i = sh → p (hopN T L H o i) o) : ∀ (n k : Nat) (Q : WQ), allQ p Q → allQ p (wGo T L H sh n k Q)
  | 0, k, Q, h => h
  | n + 1, k, Q, h => by
    show allQ p (match Q[k]? with
      | none => Q
      | some e => wGo T L H sh n (k + 1) (wSlots T L H sh e.1 k e.2.2.2 (fldT T L (H.2 e.1).1) 0 Q))
    cases he : Q[k]? with
    | none => exact h
    | some e => exact all_go hp n (k + 1) _ (all_slots _ 0 Q h (fun j _ h2 g1 g2 => hp e.1 e.2.1 (h e (List.mem_of_getElem? he)) j (by omega) g1 g2))
theorem all_roots (hp : ∀ o, 1 ≤ o → o ≤ H.1 → (H.2 o).2.1 0 = 0 → ¬ o = sh → p o 0) : ∀ (r o : Nat) (Q : WQ), o + r = H.1 + 1 → 1 ≤ o → allQ p Q → allQ p (wRoots H sh r o Q)
  | 0, o, Q, _, _, h => h
  | r + 1, o, Q, eo, o1, h => by
    show allQ p (wRoots H sh r (o + 1) (wRoot H sh o Q))
    refine all_roots hp r (o + 1) _ (by omega) (by omega) ?_
    unfold wRoot
    by_cases g : (H.2 o).2.1 0 = 0 ∧ ¬ o = sh
    · rw [if_pos g]; exact all_come h (hp o o1 (by omega) g.1 g.2)
    · rw [if_neg g]; exact h
theorem all_walk (h0 : ∀ o, 1 ≤ o → o ≤ H.1 → (H.2 o).2.1 0 = 0 → ¬ o = sh → p o 0) (hp : ∀ o f, p o f → ∀ i, i < fldT T L (H.2 o).1 → ¬ hopN T L H o i = 0 → ¬ hopN T L H o i = sh → p (hopN T L H o i) o) : allQ p (walkR T L H sh) :=
  all_go hp _ _ _ (all_roots h0 _ _ _ (by omega) (by omega) (fun e he => (by cases he)))
theorem roots_pre : ∀ (r o : Nat) (Q : WQ), ∃ R, wRoots H sh r o Q = Q ++ R
  | 0, o, Q => ⟨[], (List.append_nil Q).symm⟩
  | r + 1, o, Q => by
    obtain ⟨R2, e2⟩ := roots_pre r (o + 1) (wRoot H sh o Q)
    have h1 : ∃ R, wRoot H sh o Q = Q ++ R := by
      unfold wRoot
      by_cases g : (H.2 o).2.1 0 = 0 ∧ ¬ o = sh
      · rw [if_pos g]; exact come_pre
      · rw [if_neg g]; exact ⟨[], (List.append_nil Q).symm⟩
    obtain ⟨R1, e1⟩ := h1
    refine ⟨R1 ++ R2, ?_⟩
    show wRoots H sh r (o + 1) (wRoot H sh o Q) = _
    rw [e2, e1, List.append_assoc]
theorem roots_in : ∀ (r o : Nat) (Q : WQ) (j : Nat), o ≤ j → j < o + r → (H.2 j).2.1 0 = 0 → ¬ j = sh → inW (wRoots H sh r o Q) j
  | 0, o, Q, j, h1, h2, _, _ => by omega
  | r + 1, o, Q, j, h1, h2, g1, g2 => by
    show inW (wRoots H sh r (o + 1) (wRoot H sh o Q)) j
    by_cases e : j = o
    · obtain ⟨R, eR⟩ := roots_pre (H := H) (sh := sh) r (o + 1) (wRoot H sh o Q)
      rw [eR]
      refine inW.app ?_
      unfold wRoot
      rw [← e, if_pos ⟨g1, g2⟩]
      exact come_in
    · exact roots_in r (o + 1) _ j (by omega) (by omega) g1 g2
theorem walkR_ok (P : HWp T L b H) (hx : x ≤ H.1) : WOK H (walkR T L H x) := (cls_go hx P (H.1 + 1) 0 (wRoots H x H.1 1 []) (by omega) (roots_ok P H.1 1 [] (by omega) (by omega) WOK.nil) (fun j y hj _ => absurd hj (Nat.not_lt_zero j))).2.1
theorem RA.root (P : HWp T L b H) (hx : x ≤ H.1) (o1 : 1 ≤ o) (o2 : o ≤ H.1) (g1 : (H.2 o).2.1 0 = 0) (g2 : ¬ o = x) : RA T L H x o := by
  obtain ⟨R, eR⟩ := (cls_go hx P (H.1 + 1) 0 (wRoots H x H.1 1 []) (by omega) (roots_ok P H.1 1 [] (by omega) (by omega) WOK.nil) (fun j y hj _ => absurd hj (Nat.not_lt_zero j))).2.2
  unfold RA walkR
  rw [eR]
  exact inW.app (roots_in H.1 1 [] o o1 (by omega) g1 g2)
theorem RA.hop (P : HWp T L b H) (hx : x ≤ H.1) (h : RA T L H x o) (hi : i < fldT T L (H.2 o).1) (g1 : ¬ hopN T L H o i = 0) (g2 : ¬ hopN T L H o i = x) : RA T L H x (hopN T L H o i) := by
  obtain ⟨e, he, ev⟩ := h
  rw [← ev] at hi g1 g2 ⊢
  rcases walkR_cl P hx he hi with a | a | a
  · exact absurd a g1
  · exact absurd a g2
  · exact a
theorem RA.ind {q : Nat → Prop} (P : HWp T L b H) (hx : x ≤ H.1) (h0 : ∀ o, 1 ≤ o → o ≤ H.1 → (H.2 o).2.1 0 = 0 → ¬ o = x → q o) (hp : ∀ o, RA T L H x o → q o → ∀ i, i < fldT T L (H.2 o).1 → ¬ hopN T L H o i = 0 → ¬ hopN T L H o i = x → q (hopN T L H o i)) (h : RA T L H x v) : q v := by
  obtain ⟨e, he, ev⟩ := h
  have a := all_walk (T := T) (L := L) (H := H) (sh := x) (p := fun o _ => RA T L H x o ∧ q o) (fun o o1 o2 g1 g2 => ⟨RA.root P hx o1 o2 g1 g2, h0 o o1 o2 g1 g2⟩) (fun o f hq i hi g1 g2 => ⟨RA.hop P hx hq.1 hi g1 g2, hp o hq.1 hq.2 i hi g1 g2⟩) e he
  rw [← ev]
  exact a.2
theorem RA.bd (P : HWp T L b H) (hx : x ≤ H.1) (h : RA T L H x v) : 1 ≤ v ∧ v ≤ H.1 := by
  obtain ⟨e, he, ev⟩ := h
  rw [← ev]
  exact (walkR_ok P hx).2.1 e he
theorem RA.ne (P : HWp T L b H) (hx : x ≤ H.1) (h : RA T L H x v) : ¬ v = x := RA.ind (q := fun u => ¬ u = x) P hx (fun o _ _ _ g => g) (fun o _ _ i _ _ g => g) h
theorem RA.zero (P : HWp T L b H) (hx : x ≤ H.1) (h : RA T L H x v) : RA T L H 0 v := RA.ind (q := fun u => RA T L H 0 u) P hx (fun o o1 o2 g _ => RA.root P (Nat.zero_le _) o1 o2 g (by omega)) (fun o _ a i hi g _ => RA.hop P (Nat.zero_le _) a hi g g) h
/-- what is never come to may as well be shut -/
theorem RA.un (P : HWp T L b H) (hx : x ≤ H.1) (hn : ¬ RA T L H 0 x) (h : RA T L H 0 v) : RA T L H x v := RA.ind (q := fun u => RA T L H x u) P (Nat.zero_le _) (fun o o1 o2 g _ => RA.root P hx o1 o2 g (fun y => hn (by rw [← y]; exact RA.root P (Nat.zero_le _) o1 o2 g (by omega)))) (fun o r a i hi g _ => RA.hop P hx a hi g (fun y => hn (by rw [← y]; exact RA.hop P (Nat.zero_le _) r hi g g))) h
theorem walk_from : allQ (fun o f => 1 ≤ o ∧ ((f = 0 ∧ (H.2 o).2.1 0 = 0) ∨ (1 ≤ f ∧ ¬ o = 0 ∧ ∃ i, i < fldT T L (H.2 f).1 ∧ hopN T L H f i = o))) (walkR T L H 0) :=
  all_walk (fun o o1 _ g _ => ⟨o1, Or.inl ⟨rfl, g⟩⟩) (fun o f ho i hi g _ => ⟨by omega, Or.inr ⟨ho.1, g, i, hi, rfl⟩⟩)
end MJB96B
end
section
/-! ===== chains up; where two chains meet ===== -/
/-- ranks fall going up, and tell all apart -/
def GN (Q : WQ) (rk N : Nat → Nat) : Prop := N 0 = 0 ∧ rk 0 = 0 ∧ (∀ v, inW Q v → 1 ≤ v ∧ zW Q (N v) ∧ rk (N v) < rk v) ∧ ∀ x y, zW Q x → zW Q y → rk x = rk y → x = y
section MJB96C
variable {Q : WQ} {rk N : Nat → Nat} {a u v w x y k : Nat}
theorem inC.self : inC N v v := ⟨0, rfl⟩
theorem inC.step : inC N a v ↔ a = v ∨ inC N a (N v) := by
  constructor
  · rintro ⟨k, hk⟩
    cases k with
    | zero => exact Or.inl hk.symm
    | succ k => exact Or.inr ⟨k, hk⟩
  · rintro (e | ⟨k, hk⟩)
    · exact ⟨0, e.symm⟩
    · exact ⟨k + 1, hk⟩
theorem upN_0 (h : N 0 = 0) : ∀ k, upN N k 0 = 0
  | 0 => rfl
  | k + 1 => by
    show upN N k (N 0) = 0
    rw [h]
    exact upN_0 h k
theorem inC.zero (h : N 0 = 0) (c : inC N a 0) : a = 0 := by
  obtain ⟨k, hk⟩ := c
  rw [← hk, upN_0 h]
theorem upN_add : ∀ (m k v : Nat), upN N (k + m) v = upN N k (upN N m v)
  | 0, k, v => rfl
  | m + 1, k, v => by
    show upN N (k + m) (N v) = upN N k (upN N m (N v))
    exact upN_add m k (N v)
theorem inC.tr (h : inC N a u) (g : inC N u v) : inC N a v := by
  obtain ⟨k, hk⟩ := h
  obtain ⟨m, hm⟩ := g
  exact ⟨k + m, by rw [upN_add, hm, hk]⟩
theorem up_rk (G : GN Q rk N) : ∀ (k v : Nat), zW Q v → zW Q (upN N k v) ∧ rk (upN N k v) ≤ rk v
  | 0, v, h => ⟨h, Nat.le_refl _⟩
  | k + 1, v, h => by
    show zW Q (upN N k (N v)) ∧ rk (upN N k (N v)) ≤ rk v
    rcases h with h | h
    · rw [h, G.1, upN_0 G.1]
      exact ⟨Or.inl rfl, Nat.le_refl _⟩
    · obtain ⟨_, g2, g3⟩ := G.2.2.1 v h
      obtain ⟨i1, i2⟩ := up_rk G k (N v) g2
      exact ⟨i1, by omega⟩
theorem inC.rkl (G : GN Q rk N) (hv : zW Q v) (h : inC N a v) : zW Q a ∧ rk a ≤ rk v := by
  obtain ⟨k, hk⟩ := h
  rw [← hk]
  exact up_rk G k v hv
theorem inC.lt (G : GN Q rk N) (hv : zW Q v) (h : inC N a v) (hn : ¬ a = v) : inW Q v ∧ rk a < rk v ∧ inC N a (N v) := by
  have c := (inC.step.mp h).resolve_left hn
  rcases hv with hv | hv
  · rw [hv] at h hn
    exact absurd (h.zero G.1) hn
  · obtain ⟨_, g2, g3⟩ := G.2.2.1 v hv
    have := (c.rkl G g2).2
    exact ⟨hv, by omega, c⟩
theorem abB_ok (G : GN Q rk N) : ∀ (r x y : Nat), rk x + rk y ≤ r → zW Q x → zW Q y → zW Q (abB N rk r x y) ∧ ∀ a, inC N a (abB N rk r x y) ↔ inC N a x ∧ inC N a y
  | 0, x, y, h, hx, hy => by
    have e : x = y := G.2.2.2 x y hx hy (by omega)
    refine ⟨hx, fun a => ?_⟩
    show inC N a x ↔ _
    rw [← e]
    exact ⟨fun h => ⟨h, h⟩, fun h => h.1⟩
  | r + 1, x, y, h, hx, hy => by
    have eu : abB N rk (r + 1) x y = if x = y then x else if rk x ≤ rk y then abB N rk r x (N y) else abB N rk r (N x) y := rfl
    rw [eu]
    by_cases e : x = y
    · rw [if_pos e, ← e]
      exact ⟨hx, fun a => ⟨fun h => ⟨h, h⟩, fun h => h.1⟩⟩
    · rw [if_neg e]
      by_cases g : rk x ≤ rk y
      · rw [if_pos g]
        have lt : rk x < rk y := by
          rcases Nat.lt_or_eq_of_le g with h | h
          · exact h
          · exact absurd (G.2.2.2 x y hx hy h) e
        have yW : inW Q y := by
          rcases hy with h0 | h0
          · rw [h0, G.2.1] at lt; omega
          · exact h0
        obtain ⟨_, n1, n2⟩ := G.2.2.1 y yW
        obtain ⟨i1, i2⟩ := abB_ok G r x (N y) (by omega) hx n1
        refine ⟨i1, fun a => (i2 a).trans ⟨fun ⟨p, q⟩ => ⟨p, inC.step.mpr (Or.inr q)⟩, fun ⟨p, q⟩ => ⟨p, ?_⟩⟩⟩
        rcases inC.step.mp q with q | q
        · rw [q] at p
          have := (p.rkl G hx).2
          omega
        · exact q
      · rw [if_neg g]
        have xW : inW Q x := by
          rcases hx with h0 | h0
          · rw [h0, G.2.1] at g; omega
          · exact h0
        obtain ⟨_, n1, n2⟩ := G.2.2.1 x xW
        obtain ⟨i1, i2⟩ := abB_ok G r (N x) y (by omega) n1 hy
        refine ⟨i1, fun a => (i2 a).trans ⟨fun ⟨p, q⟩ => ⟨inC.step.mpr (Or.inr p), q⟩, fun ⟨p, q⟩ => ⟨?_, q⟩⟩⟩
        rcases inC.step.mp p with p | p
        · rw [p] at q
          have := (q.rkl G hy).2
          omega
        · exact p
end MJB96C
end
section
/-! ===== what is above: the class's narrowing comes to the dominators ===== -/
/-- all that must be gone through lies in the chain -/
def NK (T : TT) (L : List CD) (H : HEAP) (N : Nat → Nat) : Prop := ∀ v, RA T L H 0 v → ∀ a, RA T L H 0 a → ¬ a = v → ¬ RA T L H a v → inC N a v
/-- what lies higher can be gone round together -/
def NL (T : TT) (L : List CD) (H : HEAP) (rk N : Nat → Nat) : Prop := ∀ v, RA T L H 0 v → ∀ x, RA T L H 0 x → rk x < rk (N v) → RA T L H x (N v) → RA T L H x v
def NR (T : TT) (L : List CD) (H : HEAP) (N : Nat → Nat) : Prop := ∀ v, RA T L H 0 v → (H.2 v).2.1 0 = 0 → N v = 0
def DM (T : TT) (L : List CD) (H : HEAP) (rk N : Nat → Nat) : Prop := GN (walkR T L H 0) rk N ∧ NR T L H N ∧ NK T L H N ∧ NL T L H rk N
/-- no HOP takes anything -/
def FXN (T : TT) (L : List CD) (H : HEAP) (rk N : Nat → Nat) (r : Nat) : Prop := ∀ o, RA T L H 0 o → ∀ i, i < fldT T L (H.2 o).1 → ¬ hopN T L H o i = 0 → abB N rk r (N (hopN T L H o i)) o = N (hopN T L H o i)
section MJB96D
variable {T : TT} {b o i r a u v w x t : Nat} {L : List CD} {H : HEAP} {rk N : Nat → Nat}
theorem NL.chain (G : GN (walkR T L H 0) rk N) (h : NL T L H rk N) (hx : RA T L H 0 x) : ∀ (k v : Nat), RA T L H 0 v → rk x < rk (upN N k v) → RA T L H x (upN N k v) → RA T L H x v
  | 0, v, _, _, h3 => h3
  | k + 1, v, hv, h2, h3 => by
    have h2' : rk x < rk (upN N k (N v)) := h2
    have h3' : RA T L H x (upN N k (N v)) := h3
    obtain ⟨_, g2, g3⟩ := G.2.2.1 v hv
    rcases g2 with g2 | g2
    · rw [g2, upN_0 G.1, G.2.1] at h2'
      omega
    · have l := (up_rk G k (N v) (Or.inr g2)).2
      exact h v hv x hx (by omega) (NL.chain G h hx k (N v) g2 h2' h3')
/-- chains of what lies lower than t are left -/
theorem nar_keep (G : GN (walkR T L H 0) rk N) : ∀ (n u : Nat), rk u < n → zW (walkR T L H 0) u → rk u < rk t → ∀ a, inC (narN N rk r o t) a u ↔ inC N a u
  | 0, u, h, _, _, a => by omega
  | n + 1, u, h, hu, ht, a => by
    have ne : ¬ u = t := fun e => by rw [e] at ht; omega
    have e : narN N rk r o t u = N u := if_neg ne
    rw [inC.step, inC.step (N := N), e]
    rcases hu with hu | hu
    · have n0 : narN N rk r o t 0 = 0 := by rw [← hu, e, hu, G.1]
      rw [hu, G.1]
      constructor
      · rintro (c | c)
        · exact Or.inl c
        · exact Or.inl (c.zero n0)
      · rintro (c | c)
        · exact Or.inl c
        · exact Or.inl (c.zero G.1)
    · obtain ⟨_, g2, g3⟩ := G.2.2.1 u hu
      have ih := nar_keep G n (N u) (by omega) g2 (by omega) a
      rw [ih]
theorem DM.nar (P : HWp T L b H) (D : DM T L H rk N) (ho : RA T L H 0 o) (hi : i < fldT T L (H.2 o).1) (h0 : ¬ hopN T L H o i = 0) (hr : ∀ x y, zW (walkR T L H 0) x → zW (walkR T L H 0) y → rk x + rk y ≤ r) : DM T L H rk (narN N rk r o (hopN T L H o i)) := by
  obtain ⟨G, hR, hK, hL⟩ := D
  have ht : RA T L H 0 (hopN T L H o i) := RA.hop P (Nat.zero_le _) ho hi h0 h0
  have hh : ∀ x, x ≤ H.1 → ¬ hopN T L H o i = x → RA T L H x o → RA T L H x (hopN T L H o i) := fun x hx hn hx2 => RA.hop P hx hx2 hi h0 hn
  generalize hopN T L H o i = t at *
  obtain ⟨t1, t2, t3⟩ := G.2.2.1 t ht
  obtain ⟨w1, w2⟩ := abB_ok G r (N t) o (hr _ _ t2 (Or.inr ho)) t2 (Or.inr ho)
  have wl := ((w2 _).mp inC.self).1
  have wr := (wl.rkl G t2).2
  have et : narN N rk r o t t = abB N rk r (N t) o := if_pos rfl
  have en : ∀ v, ¬ v = t → narN N rk r o t v = N v := fun v hv => if_neg hv
  have G' : GN (walkR T L H 0) rk (narN N rk r o t) := by
    refine ⟨by rw [en 0 (by omega)]; exact G.1, G.2.1, fun v hv => ?_, G.2.2.2⟩
    by_cases e : v = t
    · rw [e, et]
      exact ⟨t1, w1, by omega⟩
    · rw [en v e]
      exact G.2.2.1 v hv
  refine ⟨G', fun v hv hv0 => ?_, ?_, fun v hv x hx h1 h2 => ?_⟩
  · by_cases e : v = t
    · rw [e] at hv0 ⊢
      rw [et]
      rw [hR t ht hv0] at wl ⊢
      exact wl.zero G.1
    · rw [en v e]
      exact hR v hv hv0
  · have main : ∀ (n v : Nat), rk v < n → RA T L H 0 v → ∀ a, RA T L H 0 a → ¬ a = v → ¬ RA T L H a v → inC (narN N rk r o t) a v := by
      intro n
      induction n with
      | zero => intro v h; omega
      | succ n ih =>
        intro v hn hv a ha hne hnr
        have aH := ha.bd P (Nat.zero_le _)
        have c := hK v hv a ha hne hnr
        by_cases e : v = t
        · rw [e] at hne hnr c ⊢
          have c1 := (c.lt G (Or.inr ht) hne).2.2
          have c2 : inC N a o := by
            by_cases eo : a = o
            · rw [eo]; exact inC.self
            · exact hK o ho a ha eo (fun q => hnr (hh a aH.2 (fun y => hne y.symm) q))
          have c3 := (w2 a).mpr ⟨c1, c2⟩
          rw [inC.step, et]
          exact Or.inr ((nar_keep (t := t) G _ _ (Nat.lt_succ_self _) w1 (by omega) a).mpr c3)
        · obtain ⟨v1, v2, v3⟩ := G.2.2.1 v hv
          obtain ⟨_, _, c1⟩ := c.lt G (Or.inr hv) hne
          rw [inC.step, en v e]
          refine Or.inr ?_
          rcases v2 with v2 | v2
          · rw [v2] at c1
            have := c1.zero G.1
            omega
          · by_cases ea : a = N v
            · rw [← ea]; exact inC.self
            · have lt := (c1.lt G (Or.inr v2) ea).2.1
              exact ih (N v) (by omega) v2 a ha ea (fun q => hnr (hL v hv a ha lt q))
    exact fun v hv => main _ v (Nat.lt_succ_self _) hv
  · by_cases e : v = t
    · rw [e] at h1 h2 ⊢
      rw [et] at h1 h2
      obtain ⟨k, hk⟩ := wl
      rw [← hk] at h1 h2
      exact NL.chain G hL hx (k + 1) t ht h1 h2
    · rw [en v e] at h1 h2
      exact hL v hv x hx h1 h2
/-- where no HOP takes anything, the chain holds just what must be gone through -/
theorem DM.dom (P : HWp T L b H) (D : DM T L H rk N) (F : FXN T L H rk N r) (hr : ∀ x y, zW (walkR T L H 0) x → zW (walkR T L H 0) y → rk x + rk y ≤ r) (hv : RA T L H 0 v) (ha : RA T L H 0 a) (hne : ¬ a = v) : inC N a v ↔ ¬ RA T L H a v := by
  obtain ⟨G, hR, hK, hL⟩ := D
  have aH := ha.bd P (Nat.zero_le _)
  refine ⟨fun c q => ?_, fun q => hK v hv a ha hne q⟩
  have w : RA T L H 0 v ∧ ¬ inC N a v := by
    refine RA.ind (q := fun u => RA T L H 0 u ∧ ¬ inC N a u) P aH.2 (fun o o1 o2 g1 g2 => ?_) (fun o hao hq i hi g1 g2 => ?_) q
    · have ho := RA.root P (Nat.zero_le _) o1 o2 g1 (show ¬ o = 0 by omega)
      refine ⟨ho, fun c => ?_⟩
      have c1 := (c.lt G (Or.inr ho) (fun y => g2 y.symm)).2.2
      rw [hR o ho g1] at c1
      have := c1.zero G.1
      omega
    · have ht := RA.hop P (Nat.zero_le _) hq.1 hi g1 g1
      refine ⟨ht, fun c => ?_⟩
      obtain ⟨_, t2, _⟩ := G.2.2.1 _ ht
      have c1 := (c.lt G (Or.inr ht) (fun y => g2 y.symm)).2.2
      have m := ((abB_ok G r _ o (hr _ _ t2 (Or.inr hq.1)) t2 (Or.inr hq.1)).2 (N (hopN T L H o i))).mp (by rw [F o hq.1 i hi g1]; exact inC.self)
      exact hq.2 (c1.tr m.2)
  exact w.2 c
end MJB96D
end
section
/-! ===== the walk's own chain; the nearest above, as the reference finds it ===== -/
section MJB96E
variable {T : TT} {b o i r a u v w x t k n : Nat} {L : List CD} {H : HEAP} {Q : WQ} {N : Nat → Nat} {e : Nat × Nat × Nat × Nat}
theorem rkL_at : ∀ (l : List Nat) (k x : Nat), l.Nodup → l[k]? = some x → rkL l x = k + 1
  | [], k, x, _, h => by cases h
  | y :: l, 0, x, _, h => by
    have e : y = x := by simpa using h
    show (if y = x then 1 else rkL l x + 1) = _
    rw [if_pos e]
  | y :: l, k + 1, x, nd, h => by
    have h' : l[k]? = some x := by simpa using h
    obtain ⟨n1, n2⟩ := List.nodup_cons.mp nd
    have ne : ¬ y = x := fun e => n1 (by rw [e]; exact List.mem_of_getElem? h')
    show (if y = x then 1 else rkL l x + 1) = _
    rw [if_neg ne, rkL_at l k x n2 h']
theorem rkQ_at (hQ : WOK H Q) (he : Q[k]? = some e) : rkQ Q e.1 = k + 1 := by
  have h1 := (hQ.2.1 e (List.mem_of_getElem? he)).1
  unfold rkQ
  rw [if_neg (by omega)]
  exact rkL_at _ k _ hQ.1 (by rw [List.getElem?_map, he]; rfl)
theorem prQ_at : ∀ (Q : WQ) (k : Nat) (e : Nat × Nat × Nat × Nat), (Q.map (fun e => e.1)).Nodup → Q[k]? = some e → prQ Q e.1 = e.2.1
  | [], k, e, _, h => by cases h
  | y :: l, 0, e, _, h => by
    have ey : y = e := by simpa using h
    show (if y.1 = e.1 then y.2.1 else prQ l e.1) = _
    rw [ey, if_pos rfl]
  | y :: l, k + 1, e, nd, h => by
    have h' : l[k]? = some e := by simpa using h
    obtain ⟨n1, n2⟩ := List.nodup_cons.mp nd
    have ne : ¬ y.1 = e.1 := fun q => n1 (List.mem_map.mpr ⟨e, List.mem_of_getElem? h', q.symm⟩)
    show (if y.1 = e.1 then y.2.1 else prQ l e.1) = _
    rw [if_neg ne]
    exact prQ_at l k e n2 h'
theorem prQ_no : ∀ (Q : WQ) (x : Nat), (∀ e, e ∈ Q → ¬ e.1 = x) → prQ Q x = 0
  | [], x, _ => rfl
  | y :: l, x, h => by
    show (if y.1 = x then y.2.1 else prQ l x) = 0
    rw [if_neg (h y List.mem_cons_self)]
    exact prQ_no l x (fun e he => h e (List.mem_cons_of_mem _ he))
theorem inW.at (h : inW Q v) : ∃ (k : Nat) (e : Nat × Nat × Nat × Nat), Q[k]? = some e ∧ e.1 = v := by
  obtain ⟨e, he, ev⟩ := h
  obtain ⟨k, hk⟩ := List.getElem?_of_mem he
  exact ⟨k, e, hk, ev⟩
theorem inW.of (h : Q[k]? = some e) : inW Q e.1 := ⟨e, List.mem_of_getElem? h, rfl⟩
theorem GN_0 (hQ : WOK H Q) : GN Q (rkQ Q) (prQ Q) := by
  refine ⟨prQ_no Q 0 (fun e he q => by have := (hQ.2.1 e he).1; omega), if_pos rfl, fun v hv => ?_, fun x y hx hy h => ?_⟩
  · obtain ⟨k, e, he, ev⟩ := hv.at
    rw [← ev, prQ_at Q k e hQ.1 he, rkQ_at hQ he]
    refine ⟨(hQ.2.1 e (List.mem_of_getElem? he)).1, ?_⟩
    rcases hQ.2.2 k e he with ⟨h1, _⟩ | ⟨_, h2, p, p1, p2, _⟩
    · rw [h1]
      exact ⟨Or.inl rfl, by show (if (0 : Nat) = 0 then 0 else _) < _; rw [if_pos rfl]; omega⟩
    · rw [← p2, rkQ_at hQ p1]
      exact ⟨Or.inr (inW.of p1), by omega⟩
  · have z : rkQ Q 0 = 0 := if_pos rfl
    rcases hx with hx | hx
    · rcases hy with hy | hy
      · rw [hx, hy]
      · obtain ⟨k, e, he, ev⟩ := hy.at
        rw [hx, z, ← ev, rkQ_at hQ he] at h
        omega
    · obtain ⟨k, e, he, ev⟩ := hx.at
      rcases hy with hy | hy
      · rw [hy, z, ← ev, rkQ_at hQ he] at h
        omega
      · obtain ⟨k', e', he', ev'⟩ := hy.at
        rw [← ev, ← ev', rkQ_at hQ he, rkQ_at hQ he'] at h
        rw [show k = k' by omega, he'] at he
        rw [← ev, ← ev', Option.some.inj he]
theorem WOK.on1 {k' : Nat} {e' : Nat × Nat × Nat × Nat} (hQ : WOK H Q) (h1 : Q[k]? = some e) (h2 : Q[k']? = some e') (he : e.1 = e'.1) : e = e' := by
  have a := rkQ_at hQ h1
  rw [he, rkQ_at hQ h2] at a
  rw [show k = k' by omega, h2] at h1
  exact (Option.some.inj h1).symm
theorem root_from (P : HWp T L b H) (o1 : 1 ≤ o) (o2 : o ≤ H.1) (g1 : (H.2 o).2.1 0 = 0) : prQ (walkR T L H 0) o = 0 := by
  obtain ⟨R, eR⟩ := (cls_go (Nat.zero_le _) P (H.1 + 1) 0 (wRoots H 0 H.1 1 []) (by omega) (roots_ok P H.1 1 [] (by omega) (by omega) WOK.nil) (fun j y hj _ => absurd hj (Nat.not_lt_zero j))).2.2
  have hQ := walkR_ok (x := 0) P (Nat.zero_le _)
  obtain ⟨k, e, he, ev⟩ := (roots_in (H := H) (sh := 0) H.1 1 [] o o1 (by omega) g1 (by omega)).at
  have e0 : e.2.1 = 0 := all_roots (sh := 0) (p := fun _ f => f = 0) (fun _ _ _ _ _ => rfl) H.1 1 [] (by omega) (by omega) (fun e he => (by cases he)) e (List.mem_of_getElem? he)
  have he' : (walkR T L H 0)[k]? = some e := by
    unfold walkR
    rw [eR]
    exact pre_at he
  rw [← ev, prQ_at _ k e hQ.1 he', e0]
theorem DM_0 (P : HWp T L b H) : DM T L H (rkQ (walkR T L H 0)) (prQ (walkR T L H 0)) := by
  have hQ := walkR_ok (x := 0) P (Nat.zero_le _)
  have G := GN_0 hQ
  have fr : ∀ v, RA T L H 0 v → (H.2 v).2.1 0 = 0 ∧ prQ (walkR T L H 0) v = 0 ∨ (RA T L H 0 (prQ (walkR T L H 0) v) ∧ ∃ i, i < fldT T L (H.2 (prQ (walkR T L H 0) v)).1 ∧ hopN T L H (prQ (walkR T L H 0) v) i = v) := by
    intro v hv
    obtain ⟨k, e, he, ev⟩ := inW.at hv
    have pe := prQ_at _ k e hQ.1 he
    obtain ⟨_, h | ⟨h1, _, i, h3, h4⟩⟩ := walk_from (T := T) (L := L) (H := H) e (List.mem_of_getElem? he)
    · rw [← ev, pe]
      exact Or.inl ⟨h.2, h.1⟩
    · rw [← ev, pe]
      refine Or.inr ⟨?_, i, h3, h4⟩
      have g := (G.2.2.1 e.1 (inW.of he)).2.1
      rw [pe] at g
      exact g.resolve_left (by omega)
  refine ⟨G, fun v hv hv0 => ?_, fun v hv a ha hne hnr => ?_, fun v hv x hx h1 h2 => ?_⟩
  · have := hv.bd P (Nat.zero_le _)
    exact root_from P this.1 this.2 hv0
  · have main : ∀ (n v : Nat), rkQ (walkR T L H 0) v < n → RA T L H 0 v → ¬ inC (prQ (walkR T L H 0)) a v → RA T L H a v := by
      intro n
      induction n with
      | zero => intro v h; omega
      | succ n ih =>
        intro v hn hv hc
        have vb := hv.bd P (Nat.zero_le _)
        have ab := ha.bd P (Nat.zero_le _)
        have va : ¬ v = a := fun q => hc (by rw [q]; exact inC.self)
        rcases fr v hv with ⟨f1, _⟩ | ⟨f1, i, f2, f3⟩
        · exact RA.root P ab.2 vb.1 vb.2 f1 va
        · have lt := (G.2.2.1 v hv).2.2
          have := ih _ (by omega) f1 (fun q => hc (inC.step.mpr (Or.inr q)))
          have hp := RA.hop P ab.2 this f2 (by rw [f3]; omega) (by rw [f3]; exact va)
          rw [f3] at hp
          exact hp
    exact Classical.byContradiction (fun q => hnr (main _ v (Nat.lt_succ_self _) hv q))
  · rcases fr v hv with ⟨_, f1⟩ | ⟨f1, i, f2, f3⟩
    · rw [f1, G.2.1] at h1
      omega
    · have lt := (G.2.2.1 v hv).2.2
      have xb := hx.bd P (Nat.zero_le _)
      have vb := hv.bd P (Nat.zero_le _)
      have hp := RA.hop P xb.2 h2 f2 (by rw [f3]; omega) (by rw [f3]; intro q; have := congrArg (rkQ (walkR T L H 0)) q; omega)
      rw [f3] at hp
      exact hp
/-- up a WAY: a place no later, the HOPS asked for -/
theorem upQ_pl (hQ : WOK H Q) : ∀ (n k x : Nat) (e : Nat × Nat × Nat × Nat), k < n → Q[k]? = some e → ∃ (k' : Nat) (e' : Nat × Nat × Nat × Nat), Q[k']? = some e' ∧ e'.1 = upQ Q x n k ∧ k' ≤ k ∧ (x ≤ e.2.2.2 → e'.2.2.2 = x) ∧ ∀ x', x' ≤ x → upQ Q x' n k = upQ Q x' (k' + 1) k'
  | 0, k, x, e, h, _ => by omega
  | n + 1, k, x, e, h, he => by
    by_cases g : e.2.2.2 ≤ x
    · exact ⟨k, e, he, by rw [upQ_at he, if_pos g], Nat.le_refl _, fun q => by omega, fun x' _ => upQ_fu hQ (n + 1) k h⟩
    · rcases hQ.2.2 k e he with ⟨_, h2⟩ | ⟨_, h2, p, p1, p2, p3⟩
      · omega
      · obtain ⟨k', e', a1, a2, a3, a4, a5⟩ := upQ_pl hQ n e.2.2.1 x p (by omega) p1
        refine ⟨k', e', a1, by rw [a2, upQ_at he, if_neg g], by omega, fun q => a4 (by omega), fun x' hx' => ?_⟩
        rw [upQ_at he, if_neg (by omega)]
        exact a5 x' hx'
/-- all that lies in the walk's chain lies on the WAY -/
theorem upQ_anc (hQ : WOK H Q) (hp : inW Q a) : ∀ (m k : Nat) (e : Nat × Nat × Nat × Nat), Q[k]? = some e → upN (prQ Q) m e.1 = a → ∃ dp, dp ≤ e.2.2.2 ∧ a = upQ Q dp (k + 1) k
  | 0, k, e, he, h => ⟨e.2.2.2, Nat.le_refl _, by rw [upQ_at he, if_pos (Nat.le_refl _)]; exact h.symm⟩
  | m + 1, k, e, he, h => by
    have h' : upN (prQ Q) m (prQ Q e.1) = a := h
    have G := GN_0 hQ
    rw [prQ_at Q k e hQ.1 he] at h'
    rcases hQ.2.2 k e he with ⟨h2, _⟩ | ⟨_, h2, p, p1, p2, p3⟩
    · rw [h2, upN_0 G.1] at h'
      obtain ⟨k', e', he', ev'⟩ := hp.at
      have := (hQ.2.1 e' (List.mem_of_getElem? he')).1
      omega
    · rw [← p2] at h'
      obtain ⟨dp, d1, d2⟩ := upQ_anc hQ hp m e.2.2.1 p p1 h'
      refine ⟨dp, by omega, ?_⟩
      rw [upQ_at he, if_neg (by omega), upQ_fu hQ k e.2.2.1 h2]
      exact d2
/-- the nearest above -/
theorem nrA_N (P : HWp T L b H) (D : DM T L H (rkQ (walkR T L H 0)) N) (F : FXN T L H (rkQ (walkR T L H 0)) N r) (hr : ∀ x y, zW (walkR T L H 0) x → zW (walkR T L H 0) y → rkQ (walkR T L H 0) x + rkQ (walkR T L H 0) y ≤ r) (he : (walkR T L H 0)[k]? = some e) : ∀ j, j ≤ e.2.2.2 → (∀ x, j ≤ x → x < e.2.2.2 → RA T L H (upQ (walkR T L H 0) x (k + 1) k) e.1) → nrA T L H (walkR T L H 0) k e.1 j = N e.1 := by
  have hQ := walkR_ok (x := 0) P (Nat.zero_le _)
  have D0 := DM_0 P
  have G := D.1
  have hv : RA T L H 0 e.1 := inW.of he
  obtain ⟨v1, v2, v3⟩ := G.2.2.1 e.1 hv
  -- what stands next above is on the WAY
  have key : inW (walkR T L H 0) (N e.1) → ∃ dp, dp < e.2.2.2 ∧ N e.1 = upQ (walkR T L H 0) dp (k + 1) k ∧ ¬ RA T L H (N e.1) e.1 := by
    intro hp
    have ne : ¬ N e.1 = e.1 := fun q => by rw [q] at v3; omega
    have nr := (D.dom P F hr hv hp ne).mp (inC.step.mpr (Or.inr inC.self))
    obtain ⟨m, hm⟩ := D0.2.2.1 e.1 hv _ hp ne nr
    obtain ⟨dp, d1, d2⟩ := upQ_anc hQ hp m k e he hm
    refine ⟨dp, ?_, d2, nr⟩
    rcases Nat.lt_or_eq_of_le d1 with q | q
    · exact q
    · rw [q, upQ_at he, if_pos (Nat.le_refl _)] at d2
      exact absurd d2 ne
  intro j
  induction j with
  | zero =>
    intro _ h
    show 0 = N e.1
    rcases v2 with v2 | v2
    · exact v2.symm
    · obtain ⟨dp, d1, d2, d3⟩ := key v2
      exact absurd (by rw [d2]; exact h dp (Nat.zero_le _) d1) d3
  | succ j ih =>
    intro hj h
    have st : nrA T L H (walkR T L H 0) k e.1 (j + 1) = if inWb (walkR T L H (upQ (walkR T L H 0) j (k + 1) k)) e.1 = true then nrA T L H (walkR T L H 0) k e.1 j else upQ (walkR T L H 0) j (k + 1) k := rfl
    rw [st]
    by_cases g : inWb (walkR T L H (upQ (walkR T L H 0) j (k + 1) k)) e.1 = true
    · rw [if_pos g]
      refine ih (by omega) (fun x h1 h2 => ?_)
      by_cases q : x = j
      · rw [q]; exact inWb_iff.mp g
      · exact h x (by omega) h2
    · rw [if_neg g]
      have g' : ¬ RA T L H (upQ (walkR T L H 0) j (k + 1) k) e.1 := fun q => g (inWb_iff.mpr q)
      obtain ⟨k', e', a1, a2, a3, a4, a5⟩ := upQ_pl hQ (k + 1) k j e (by omega) he
      have a4' := a4 (by omega)
      have cW : inW (walkR T L H 0) (upQ (walkR T L H 0) j (k + 1) k) := by rw [← a2]; exact inW.of a1
      have cne : ¬ upQ (walkR T L H 0) j (k + 1) k = e.1 := fun q => by
        rw [← a2] at q
        have := hQ.on1 a1 he q
        rw [this] at a4'
        omega
      have cc := ((D.dom P F hr hv cW cne).mpr g')
      obtain ⟨_, _, c1⟩ := cc.lt G (Or.inr hv) cne
      refine Classical.byContradiction (fun hne => ?_)
      rcases v2 with v2 | v2
      · rw [v2] at c1 hne
        exact hne (c1.zero G.1)
      · obtain ⟨dp, d1, d2, d3⟩ := key v2
        have lt := (c1.lt G (Or.inr v2) hne).2.1
        by_cases q : j + 1 ≤ dp
        · exact d3 (by rw [d2]; exact h dp q d1)
        · obtain ⟨k2, e2, b1, b2, b3, _⟩ := upQ_pl hQ (k' + 1) k' dp e' (by omega) a1
          rw [← a5 dp (by omega), ← d2] at b2
          rw [← a2, ← b2, rkQ_at hQ a1, rkQ_at hQ b1] at lt
          omega
end MJB96E
end
section
/-! ===== the class's rounds of narrowing, pure ===== -/
/-- how far all is from the top -/
def smRk (rk N : Nat → Nat) : WQ → Nat
  | [] => 0
  | e :: l => rk (N e.1) + smRk rk N l
section MJB96F
variable {T : TT} {b o i r a u v w x t k n : Nat} {L : List CD} {H : HEAP} {Q : WQ} {rk N N' : Nat → Nat} {e : Nat × Nat × Nat × Nat}
theorem sum_le (h : ∀ v, rk (N' v) ≤ rk (N v)) : ∀ (l : WQ), smRk rk N' l ≤ smRk rk N l
  | [] => Nat.le_refl _
  | e :: l => by
    have a := h e.1
    have b := sum_le h l
    show rk (N' e.1) + smRk rk N' l ≤ rk (N e.1) + smRk rk N l
    omega
theorem sum_lt (h : ∀ v, rk (N' v) ≤ rk (N v)) (ht : rk (N' t) < rk (N t)) : ∀ (l : WQ), inW l t → smRk rk N' l < smRk rk N l
  | [], hl => by
    obtain ⟨e, he, _⟩ := hl
    cases he
  | e :: l, hl => by
    have a := h e.1
    have b := sum_le h l
    show rk (N' e.1) + smRk rk N' l < rk (N e.1) + smRk rk N l
    by_cases q : e.1 = t
    · rw [q] at a ⊢
      omega
    · have c := sum_lt h ht l (by
        obtain ⟨y, y1, y2⟩ := hl
        rcases List.mem_cons.mp y1 with g | g
        · exact absurd (by rw [← g]; exact y2) q
        · exact ⟨y, g, y2⟩)
      omega
theorem sum_tri : ∀ (l : WQ) (m : Nat), (∀ (k : Nat) (e : Nat × Nat × Nat × Nat), l[k]? = some e → rk (N e.1) ≤ m + k) → 2 * smRk rk N l ≤ l.length * (2 * m + l.length)
  | [], m, _ => by show 2 * 0 ≤ _; omega
  | e :: l, m, h => by
    have a := h 0 e rfl
    have b := sum_tri l (m + 1) (fun k y hy => by have := h (k + 1) y (by simpa using hy); omega)
    show 2 * (rk (N e.1) + smRk rk N l) ≤ (l.length + 1) * (2 * m + (l.length + 1))
    generalize l.length = c at b ⊢
    generalize smRk rk N l = d at b ⊢
    have e1 : c * (2 * (m + 1) + c) = c * (2 * m) + c * 2 + c * c := by rw [show 2 * (m + 1) + c = 2 * m + 2 + c by omega, Nat.mul_add, Nat.mul_add]
    have e2 : (c + 1) * (2 * m + (c + 1)) = c * (2 * m) + c * c + c + (2 * m + c + 1) := by rw [Nat.add_mul, Nat.mul_add, Nat.mul_add]; omega
    rw [e1] at b
    rw [e2]
    omega
theorem nar_same (h : abB N rk r (N t) o = N t) : narN N rk r o t = N := by
  funext v
  unfold narN
  by_cases q : v = t
  · rw [if_pos q, q]; exact h
  · rw [if_neg q]
/-- one HOP: nothing taken, or something -/
theorem nar_one (P : HWp T L b H) (D : DM T L H rk N) (ho : RA T L H 0 o) (hi : i < fldT T L (H.2 o).1) (h0 : ¬ hopN T L H o i = 0) (hr : ∀ x y, zW (walkR T L H 0) x → zW (walkR T L H 0) y → rk x + rk y ≤ r) : (∀ v, rk (narN N rk r o (hopN T L H o i) v) ≤ rk (N v)) ∧ (¬ abB N rk r (N (hopN T L H o i)) o = N (hopN T L H o i) → rk (narN N rk r o (hopN T L H o i) (hopN T L H o i)) < rk (N (hopN T L H o i))) := by
  have G := D.1
  have ht : RA T L H 0 (hopN T L H o i) := RA.hop P (Nat.zero_le _) ho hi h0 h0
  generalize hopN T L H o i = t at *
  obtain ⟨_, t2, _⟩ := G.2.2.1 t ht
  have wl := (((abB_ok G r (N t) o (hr _ _ t2 (Or.inr ho)) t2 (Or.inr ho)).2 _).mp inC.self).1
  have et : narN N rk r o t t = abB N rk r (N t) o := if_pos rfl
  refine ⟨fun v => ?_, fun q => ?_⟩
  · by_cases q : v = t
    · rw [q, et]; exact (wl.rkl G t2).2
    · rw [show narN N rk r o t v = N v from if_neg q]
      exact Nat.le_refl _
  · rw [et]
    exact (wl.lt G t2 q).2.1
/-- what one OBJECT's HOPS take -/
theorem narS_ok (P : HWp T L b H) (ho : RA T L H 0 o) (hr : ∀ x y, zW (walkR T L H 0) x → zW (walkR T L H 0) y → rk x + rk y ≤ r) : ∀ (n i : Nat) (z : (Nat → Nat) × Bool), i + n = fldT T L (H.2 o).1 → DM T L H rk z.1 → DM T L H rk (narS T L H rk r o n i z).1 ∧ (∀ v, rk ((narS T L H rk r o n i z).1 v) ≤ rk (z.1 v)) ∧ (z.2 = true → (narS T L H rk r o n i z).2 = true) ∧ ((narS T L H rk r o n i z).2 = false → (narS T L H rk r o n i z).1 = z.1 ∧ ∀ j, i ≤ j → j < i + n → ¬ hopN T L H o j = 0 → abB z.1 rk r (z.1 (hopN T L H o j)) o = z.1 (hopN T L H o j)) ∧ ((narS T L H rk r o n i z).2 = true → z.2 = false → ∃ v, RA T L H 0 v ∧ rk ((narS T L H rk r o n i z).1 v) < rk (z.1 v))
  | 0, i, z, hn, D => ⟨D, fun v => Nat.le_refl _, fun h => h, fun _ => ⟨rfl, fun j h1 h2 => by omega⟩, fun h1 h2 => by rw [show (narS T L H rk r o 0 i z).2 = z.2 from rfl, h2] at h1; cases h1⟩
  | n + 1, i, z, hn, D => by
    have eu : narS T L H rk r o (n + 1) i z = narS T L H rk r o n (i + 1) (if hopN T L H o i = 0 then z else (narN z.1 rk r o (hopN T L H o i), z.2 || !decide (abB z.1 rk r (z.1 (hopN T L H o i)) o = z.1 (hopN T L H o i)))) := rfl
    rw [eu]
    by_cases h0 : hopN T L H o i = 0
    · rw [if_pos h0]
      obtain ⟨a1, a2, a3, a4, a5⟩ := narS_ok P ho hr n (i + 1) z (by omega) D
      refine ⟨a1, a2, a3, fun h => ⟨(a4 h).1, fun j h1 h2 h3 => ?_⟩, a5⟩
      by_cases q : j = i
      · rw [q] at h3; exact absurd h0 h3
      · exact (a4 h).2 j (by omega) (by omega) h3
    · rw [if_neg h0]
      have D' := D.nar P ho (by omega) h0 hr
      obtain ⟨m1, m2⟩ := nar_one P D ho (show i < _ by omega) h0 hr
      obtain ⟨a1, a2, a3, a4, a5⟩ := narS_ok P ho hr n (i + 1) (narN z.1 rk r o (hopN T L H o i), z.2 || !decide (abB z.1 rk r (z.1 (hopN T L H o i)) o = z.1 (hopN T L H o i))) (by omega) D'
      refine ⟨a1, fun v => Nat.le_trans (a2 v) (m1 v), fun h => a3 (by show (z.2 || _) = true; rw [h]; rfl), fun h => ?_, fun h1 h2 => ?_⟩
      · have fl : (z.2 || !decide (abB z.1 rk r (z.1 (hopN T L H o i)) o = z.1 (hopN T L H o i))) = false := by
          cases q : (z.2 || !decide (abB z.1 rk r (z.1 (hopN T L H o i)) o = z.1 (hopN T L H o i))) with
          | false => rfl
          | true => rw [a3 q] at h; cases h
        have fx : abB z.1 rk r (z.1 (hopN T L H o i)) o = z.1 (hopN T L H o i) := by
          have := (Bool.or_eq_false_iff.mp fl).2
          simpa using this
        obtain ⟨b1, b2⟩ := a4 h
        have sm : narN z.1 rk r o (hopN T L H o i) = z.1 := nar_same fx
        refine ⟨b1.trans sm, fun j h1 h2 h3 => ?_⟩
        by_cases q : j = i
        · rw [q]; exact fx
        · have b2' := b2 j (by omega) (by omega) h3
          dsimp only at b2'
          rw [sm] at b2'
          exact b2'
      · by_cases fx : abB z.1 rk r (z.1 (hopN T L H o i)) o = z.1 (hopN T L H o i)
        · obtain ⟨v, hv, lt⟩ := a5 h1 (by show (z.2 || _) = false; rw [h2, decide_eq_true fx]; rfl)
          exact ⟨v, hv, Nat.lt_of_lt_of_le lt (m1 v)⟩
        · exact ⟨_, RA.hop P (Nat.zero_le _) ho (show i < _ by omega) h0 h0, Nat.lt_of_le_of_lt (a2 _) (m2 fx)⟩
/-- what one round takes -/
theorem narQ_ok (P : HWp T L b H) (hr : ∀ x y, zW (walkR T L H 0) x → zW (walkR T L H 0) y → rk x + rk y ≤ r) : ∀ (l : WQ) (z : (Nat → Nat) × Bool), (∀ e, e ∈ l → RA T L H 0 e.1) → DM T L H rk z.1 → DM T L H rk (narQ T L H rk r l z).1 ∧ (∀ v, rk ((narQ T L H rk r l z).1 v) ≤ rk (z.1 v)) ∧ (z.2 = true → (narQ T L H rk r l z).2 = true) ∧ ((narQ T L H rk r l z).2 = false → (narQ T L H rk r l z).1 = z.1 ∧ ∀ e, e ∈ l → ∀ j, j < fldT T L (H.2 e.1).1 → ¬ hopN T L H e.1 j = 0 → abB z.1 rk r (z.1 (hopN T L H e.1 j)) e.1 = z.1 (hopN T L H e.1 j)) ∧ ((narQ T L H rk r l z).2 = true → z.2 = false → ∃ v, RA T L H 0 v ∧ rk ((narQ T L H rk r l z).1 v) < rk (z.1 v))
  | [], z, _, D => ⟨D, fun v => Nat.le_refl _, fun h => h, fun _ => ⟨rfl, fun e he => (by cases he)⟩, fun h1 h2 => by rw [show (narQ T L H rk r [] z).2 = z.2 from rfl, h2] at h1; cases h1⟩
  | e :: l, z, hl, D => by
    have eu : narQ T L H rk r (e :: l) z = narQ T L H rk r l ((narS T L H rk r e.1 (fldT T L (H.2 e.1).1) 0 (z.1, false)).1, (narS T L H rk r e.1 (fldT T L (H.2 e.1).1) 0 (z.1, false)).2 || z.2) := rfl
    obtain ⟨s1, s2, _, s4, s5⟩ := narS_ok P (hl e List.mem_cons_self) hr (fldT T L (H.2 e.1).1) 0 (z.1, false) (by omega) D
    rw [eu]
    generalize narS T L H rk r e.1 (fldT T L (H.2 e.1).1) 0 (z.1, false) = S at *
    obtain ⟨a1, a2, a3, a4, a5⟩ := narQ_ok P hr l (S.1, S.2 || z.2) (fun y hy => hl y (List.mem_cons_of_mem _ hy)) s1
    refine ⟨a1, fun v => Nat.le_trans (a2 v) (s2 v), fun h => a3 (by show (S.2 || z.2) = true; rw [h, Bool.or_true]), fun h => ?_, fun h1 h2 => ?_⟩
    · have fl : (S.2 || z.2) = false := by
        cases q : (S.2 || z.2) with
        | false => rfl
        | true => rw [a3 q] at h; cases h
      obtain ⟨f1, f2⟩ := Bool.or_eq_false_iff.mp fl
      obtain ⟨c1, c2⟩ := s4 f1
      obtain ⟨b1, b2⟩ := a4 h
      have sm : S.1 = z.1 := c1
      refine ⟨b1.trans sm, fun y hy j hj g => ?_⟩
      rcases List.mem_cons.mp hy with q | q
      · rw [q] at hj g ⊢
        exact c2 j (Nat.zero_le _) (by omega) g
      · have b2' := b2 y q j hj g
        dsimp only at b2'
        rw [sm] at b2'
        exact b2'
    · by_cases q : S.2 = true
      · obtain ⟨v, hv, lt⟩ := s5 q rfl
        exact ⟨v, hv, Nat.lt_of_le_of_lt (a2 v) lt⟩
      · obtain ⟨v, hv, lt⟩ := a5 h1 (by show (S.2 || z.2) = false; rw [Bool.eq_false_iff.mpr q, h2]; rfl)
        exact ⟨v, hv, Nat.lt_of_lt_of_le lt (s2 v)⟩
/-- all rounds: nothing is left to be taken -/
theorem narR_ok (P : HWp T L b H) (hr : ∀ x y, zW (walkR T L H 0) x → zW (walkR T L H 0) y → rk x + rk y ≤ r) : ∀ (k : Nat) (N : Nat → Nat), DM T L H rk N → smRk rk N (walkR T L H 0) < k → DM T L H rk (narR T L H rk r (walkR T L H 0) k N) ∧ FXN T L H rk (narR T L H rk r (walkR T L H 0) k N) r
  | 0, N, _, h => by omega
  | k + 1, N, D, h => by
    obtain ⟨a1, a2, _, a4, a5⟩ := narQ_ok P hr (walkR T L H 0) (N, false) (fun e he => ⟨e, he, rfl⟩) D
    have eu : narR T L H rk r (walkR T L H 0) (k + 1) N = if (narQ T L H rk r (walkR T L H 0) (N, false)).2 = true then narR T L H rk r (walkR T L H 0) k (narQ T L H rk r (walkR T L H 0) (N, false)).1 else (narQ T L H rk r (walkR T L H 0) (N, false)).1 := rfl
    rw [eu]
    generalize narQ T L H rk r (walkR T L H 0) (N, false) = S at *
    by_cases q : S.2 = true
    · rw [if_pos q]
      obtain ⟨v, hv, lt⟩ := a5 q rfl
      have := sum_lt a2 lt (walkR T L H 0) hv
      exact narR_ok P hr k S.1 a1 (by dsimp only at this; omega)
    · rw [if_neg q]
      obtain ⟨b1, b2⟩ := a4 (Bool.eq_false_iff.mpr q)
      refine ⟨a1, fun o ho i hi g => ?_⟩
      obtain ⟨e, he, ev⟩ := ho
      have b1' : S.1 = N := b1
      rw [← ev] at hi g ⊢
      rw [b1']
      exact b2 e he i hi g
theorem rk_le (hQ : WOK H Q) (hx : zW Q x) : rkQ Q x ≤ H.1 := by
  rcases hx with hx | hx
  · rw [hx, show rkQ Q 0 = 0 from if_pos rfl]
    exact Nat.zero_le _
  · obtain ⟨k, e, he, ev⟩ := hx.at
    have := (List.getElem?_eq_some_iff.mp he).1
    have := hQ.len
    rw [← ev, rkQ_at hQ he]
    omega
theorem nrC_ok (P : HWp T L b H) : DM T L H (rkQ (walkR T L H 0)) (nrC T L H) ∧ FXN T L H (rkQ (walkR T L H 0)) (nrC T L H) (2 * H.1 + 1) ∧ ∀ x y, zW (walkR T L H 0) x → zW (walkR T L H 0) y → rkQ (walkR T L H 0) x + rkQ (walkR T L H 0) y ≤ 2 * H.1 + 1 := by
  have hQ := walkR_ok (x := 0) P (Nat.zero_le _)
  have b1 := P.2.1.1
  have b2' := P.2.1.2
  have hr : ∀ x y, zW (walkR T L H 0) x → zW (walkR T L H 0) y → rkQ (walkR T L H 0) x + rkQ (walkR T L H 0) y ≤ 2 * H.1 + 1 := fun x y hx hy => by
    have := rk_le hQ hx
    have := rk_le hQ hy
    omega
  have ln := hQ.len
  have tri := sum_tri (rk := rkQ (walkR T L H 0)) (N := prQ (walkR T L H 0)) (walkR T L H 0) 0 (fun k e he => by
    have lt := ((GN_0 hQ).2.2.1 e.1 (inW.of he)).2.2
    rw [rkQ_at hQ he] at lt
    omega)
  have sq : (walkR T L H 0).length * (2 * 0 + (walkR T L H 0).length) ≤ 1334 * 1334 := Nat.mul_le_mul (by omega) (by omega)
  obtain ⟨c1, c2⟩ := narR_ok P hr 1000000 _ (DM_0 P) (by omega)
  exact ⟨c1, c2, hr⟩
/-- the nearest above is the same on both sides -/
theorem nr_same (P : HWp T L b H) (he : (walkR T L H 0)[k]? = some e) : nrA T L H (walkR T L H 0) k e.1 e.2.2.2 = nrC T L H e.1 := by
  obtain ⟨c1, c2, c3⟩ := nrC_ok P
  exact nrA_N P c1 c2 c3 he e.2.2.2 (Nat.le_refl _) (fun x h1 h2 => by omega)
/-- a LEAK: an OWNER that the chain lacks -/
theorem lk_same (P : HWp T L b H) (hv : RA T L H 0 v) (h0 : ¬ (H.2 v).2.1 0 = 0) (hl : (H.2 v).2.1 0 < v) (hH : v ≤ H.1) : lkO T L H v = true ↔ ¬ inC (nrC T L H) ((H.2 v).2.1 0) v := by
  obtain ⟨c1, c2, c3⟩ := nrC_ok P
  have e : lkO T L H v = true ↔ RA T L H ((H.2 v).2.1 0) v := by
    unfold lkO
    rw [decide_eq_false h0]
    exact inWb_iff
  rw [e]
  by_cases g : RA T L H 0 ((H.2 v).2.1 0)
  · rw [c1.dom P c2 c3 hv g (by omega)]
    exact ⟨fun h q => q h, fun h => Classical.byContradiction h⟩
  · refine ⟨fun _ q => ?_, fun _ => RA.un P (by omega) g hv⟩
    rcases (q.rkl c1.1 (Or.inr hv)).1 with h | h
    · exact h0 h
    · exact g h
end MJB96F
end
section
/-! ===== findNearest, learn: the class ===== -/
/-- the walk and the chain as they lie in the class's rows; the ranks -/
def NRc (H : HEAP) (Q : WQ) (N : Nat → Nat) (s : mjSt3) : Prop := s.1 91 3 = nI Q.length ∧ (∀ (k : Nat) (e : Nat × Nat × Nat × Nat), Q[k]? = some e → s.1 92 k = nI e.1) ∧ (∀ x, zW Q x → s.1 94 x = nI (N x)) ∧ ∀ o, 1 ≤ o → o ≤ H.1 → ¬ inW Q o → s.1 94 o = -1
def RKc (Q : WQ) (s : mjSt3) : Prop := ∀ x, zW Q x → s.1 95 x = nI (rkQ Q x)
section MJB97
variable {T : TT} {d b q o k i n m x y r t : Nat} {L : List CD} {H : HEAP} {Q : WQ} {N rk : Nat → Nat} {s s' : mjSt3} {e : Nat × Nat × Nat × Nat}
theorem zW.le (hQ : WOK H Q) (h : zW Q x) : x ≤ H.1 := by
  rcases h with h | ⟨y, y1, y2⟩
  · omega
  · have := hQ.2.1 y y1
    omega
theorem GN.zz (G : GN Q rk N) (h : zW Q x) : zW Q (N x) := by
  rcases h with h | h
  · rw [h, G.1]; exact Or.inl rfl
  · exact (G.2.2.1 x h).2.1
theorem NRc.set (N9 : NRc H Q N s) (ht : inW Q t) (h1 : 1 ≤ t) : NRc H Q (narN N rk r o t) (uI s 94 (upd (s.1 94) t (nI (abB N rk r (N t) o)))) := by
  obtain ⟨n1, n2, n3, n4⟩ := N9
  have rr : ∀ h, ¬ h = 94 → (uI s 94 (upd (s.1 94) t (nI (abB N rk r (N t) o)))).1 h = s.1 h := fun h e => uI_ne _ _ _ _ e
  have v : ∀ j, (uI s 94 (upd (s.1 94) t (nI (abB N rk r (N t) o)))).1 94 j = if j = t then nI (abB N rk r (N t) o) else s.1 94 j := fun j => by rw [uI_same, upd_g]
  refine ⟨by rw [rr 91 (by decide)]; exact n1, fun k e he => by rw [rr 92 (by decide)]; exact n2 k e he, fun z hz => ?_, fun o o1 o2 hn => ?_⟩
  · rw [v]
    unfold narN
    by_cases g : z = t
    · rw [if_pos g, if_pos g]
    · rw [if_neg g, if_neg g]; exact n3 z hz
  · rw [v, if_neg (fun g => hn (by rw [g]; exact ht))]
    exact n4 o o1 o2 hn
theorem oWc.w {h : Nat} {g : Nat → Int32} (hh : 91 ≤ h ∧ h ≤ 96) : oWc s (uI s h g) := offG_of (fun h' j e => by rw [uI_ne _ _ _ _ (fun q => e (by rw [q]; exact hh))]) rfl
theorem L196_S (R : mjR) (n a : Nat) (x y u : Int32) (hp : mjH) : L_196_8 R (n + 1) a x y u hp = b_196_8 R (L_196_8 R n) a x y u hp := rfl
theorem lq_196 (R : mjR) (hb : H.1 ≤ 1334) (h79 : s.1 79 2 = nI H.1) (hQ : WOK H Q) (N9 : NRc H Q N s) (K9 : RKc Q s) (G : GN Q (rkQ Q) N) : ∀ (r k m x y : Nat), k + r = 2 * H.1 + 1 → r < m → zW Q x → zW Q y → L_196_8 R m 91 (nI x) (nI y) (nI k) (mjW0 s) = some (some (.int (nI (abB N (rkQ Q) r x y))), mjW0 s)
  | r, k, 0, x, y, e, hm, hx, hy => by omega
  | 0, k, m + 1, x, y, e, hm, hx, hy => by
    rw [L196_S]
    unfold b_196_8 b_196_69 b_196_63
    rw [xg_91_0, xg_79_2, h79, show (2 : Int32) * nI H.1 = nI (2 * H.1) by rw [show (2 : Int32) = nI 2 from rfl, nI_mul], if_pos (nI_lt (by omega) (by omega))]
    rfl
  | r + 1, k, m + 1, x, y, e, hm, hx, hy => by
    have xl := hx.le hQ
    have yl := hy.le hQ
    have rx := rk_le hQ hx
    have ry := rk_le hQ hy
    have eu : abB N (rkQ Q) (r + 1) x y = if x = y then x else if rkQ Q x ≤ rkQ Q y then abB N (rkQ Q) r x (N y) else abB N (rkQ Q) r (N x) y := rfl
    rw [L196_S, eu]
    unfold b_196_8 b_196_69 b_196_63
    rw [xg_91_0, xg_79_2, h79, show (2 : Int32) * nI H.1 = nI (2 * H.1) by rw [show (2 : Int32) = nI 2 from rfl, nI_mul], if_neg (nI_nlt (by omega) (by omega))]
    by_cases g2 : x = y
    · rw [if_pos (by rw [g2]), if_pos g2]
    · rw [if_neg (fun z => g2 ((nI_eq (by omega) (by omega)).mp z)), if_neg g2, xg_91_7, wa_95 (by omega), xg_91_7, wa_95 (by omega), xg_91_6, wa_94 (by omega), N9.2.2.1 y hy, xg_91_6, wa_94 (by omega), N9.2.2.1 x hx, nI_1, K9 x hx, K9 y hy]
      by_cases g3 : rkQ Q x ≤ rkQ Q y
      · rw [if_pos (nI_le g3 (by omega)), if_pos g3]
        exact lq_196 R hb h79 hQ N9 K9 G r (k + 1) m x (N y) (by omega) (by omega) hx (G.zz hy)
      · rw [if_neg (nI_ge (by omega) (by omega)), if_neg g3]
        exact lq_196 R hb h79 hQ N9 K9 G r (k + 1) m (N x) y (by omega) (by omega) (G.zz hx) hy
theorem x_196 (hb : H.1 ≤ 1334) (h79 : s.1 79 2 = nI H.1) (hQ : WOK H Q) (N9 : NRc H Q N s) (K9 : RKc Q s) (G : GN Q (rkQ Q) N) (hx : zW Q x) (hy : zW Q y) : mjF (d + 1) 196 [.ref 91, .int (nI x), .int (nI y)] (mjW0 s) = some (some (.int (nI (abB N (rkQ Q) (2 * H.1 + 1) x y))), mjW0 s) := by
  rw [e_196]
  unfold f_196 b_196_0
  exact lq_196 (mjF d) hb h79 hQ N9 K9 G (2 * H.1 + 1) 0 mjN x y (by omega) (by unfold mjN; omega) hx hy
theorem RKc.keep (K : RKc Q s) (h : s'.1 95 = s.1 95) : RKc Q s' := fun x hx => by rw [h]; exact K x hx
theorem rk_2 (P : HWp T L b H) : ∀ x y, zW (walkR T L H 0) x → zW (walkR T L H 0) y → rkQ (walkR T L H 0) x + rkQ (walkR T L H 0) y ≤ 2 * H.1 + 1 := (nrC_ok P).2.2
theorem L195_S (R : mjR) (n a : Nat) (x y u v : Int32) (hp : mjH) : L_195_11 R (n + 1) a x y u v hp = b_195_11 R (L_195_11 R n) a x y u v hp := rfl
theorem lq_195 (P : HWp T L b H) (he : e ∈ walkR T L H 0) : ∀ (r i m : Nat) (v : Bool) (N : Nat → Nat) (s : mjSt3), i + r = fldT T L (H.2 e.1).1 → r < m → HWc T L q H s → NRc H (walkR T L H 0) N s → RKc (walkR T L H 0) s → DM T L H (rkQ (walkR T L H 0)) N → ∃ s', L_195_11 (mjF (d + 2)) m 91 (nI e.1) (b2 v) (nI (fldT T L (H.2 e.1).1)) (nI i) (mjW0 s) = some (some (.int (b2 (narS T L H (rkQ (walkR T L H 0)) (2 * H.1 + 1) e.1 r i (N, v)).2)), mjW0 s') ∧ oWc s s' ∧ (∀ h, ¬ h = 94 → s'.1 h = s.1 h) ∧ NRc H (walkR T L H 0) (narS T L H (rkQ (walkR T L H 0)) (2 * H.1 + 1) e.1 r i (N, v)).1 s'
  | r, i, 0, v, N, s, ei, hr, hW, N9, K9, D => by omega
  | 0, i, m + 1, v, N, s, ei, hr, hW, N9, K9, D => by
    have f3 := P.2.2.2.2.2 (H.2 e.1).1
    refine ⟨s, ?_, offG.rf, fun _ _ => rfl, N9⟩
    rw [L195_S]
    unfold b_195_11
    rw [if_pos (nI_le (by omega) (by omega)), if_pos (b2_nar v)]
    rfl
  | r + 1, i, m + 1, v, N, s, ei, hr, hW, N9, K9, D => by
    have b1 := P.2.1.1
    have b2' := P.2.1.2
    have hQ := walkR_ok (x := 0) P (Nat.zero_le _)
    have f3 := P.2.2.2.2.2 (H.2 e.1).1
    obtain ⟨e1, e2⟩ := hQ.2.1 e he
    have il : i < fldT T L (H.2 e.1).1 := by omega
    have ho : RA T L H 0 e.1 := ⟨e, he, rfl⟩
    have hh1 := (hop_ok (T := T) (L := L) (H := H) (o := e.1) (i := i) P.1 (by omega) e1 e2).1
    have eu : narS T L H (rkQ (walkR T L H 0)) (2 * H.1 + 1) e.1 (r + 1) i (N, v) = narS T L H (rkQ (walkR T L H 0)) (2 * H.1 + 1) e.1 r (i + 1) (if hopN T L H e.1 i = 0 then (N, v) else (narN N (rkQ (walkR T L H 0)) (2 * H.1 + 1) e.1 (hopN T L H e.1 i), v || !decide (abB N (rkQ (walkR T L H 0)) (2 * H.1 + 1) (N (hopN T L H e.1 i)) e.1 = N (hopN T L H e.1 i)))) := rfl
    rw [L195_S, eu]
    unfold b_195_11 b_195_47 b_195_77
    rw [if_neg (nI_ge (by omega) (by omega)), xV_91, x_190 (d := d) P hW e1 e2 il, bI_s]
    by_cases c0 : hopN T L H e.1 i = 0
    · rw [if_pos c0, c0, if_pos (show nI 0 = 0 from rfl), if_pos (show nI 0 = 0 from rfl), nI_1]
      exact lq_195 P he r (i + 1) m v N s (by omega) (by omega) hW N9 K9 D
    · have hin : RA T L H 0 (hopN T L H e.1 i) := RA.hop P (Nat.zero_le _) ho il c0 c0
      have tz : zW (walkR T L H 0) (hopN T L H e.1 i) := Or.inr hin
      have a1 := D.1.zz tz
      have z1 := (abB_ok D.1 (2 * H.1 + 1) _ _ (rk_2 P _ _ a1 (Or.inr ho)) a1 (Or.inr ho)).1
      have z2 := x_196 (d := d + 1) (by omega) hW.2.1 hQ N9 K9 D.1 a1 (show zW (walkR T L H 0) e.1 from Or.inr ho)
      have al := a1.le hQ
      have zl := z1.le hQ
      rw [if_neg c0, if_neg (nI_ne0 (by omega) (by omega)), xg_91_6, wa_94 (by omega), N9.2.2.1 _ tz, xV_91, z2, bI_s, if_neg (nI_ne0 (by omega) (by omega)), xg_91_6, wa_94 (by omega), N9.2.2.1 _ tz, nI_1]
      by_cases g : abB N (rkQ (walkR T L H 0)) (2 * H.1 + 1) (N (hopN T L H e.1 i)) e.1 = N (hopN T L H e.1 i)
      · rw [if_pos (by rw [g]), nar_same g, decide_eq_true g, show (v || !true) = v by cases v <;> rfl]
        exact lq_195 P he r (i + 1) m v N s (by omega) (by omega) hW N9 K9 D
      · rw [if_neg (fun w => g ((nI_eq (by omega) (by omega)).mp w)), xg_91_6, ws_94 (by omega), decide_eq_false g, show (v || !false) = true by cases v <;> rfl]
        obtain ⟨z, gz⟩ : ∃ y, y = uI s 94 (upd (s.1 94) (hopN T L H e.1 i) (nI (abB N (rkQ (walkR T L H 0)) (2 * H.1 + 1) (N (hopN T L H e.1 i)) e.1))) := ⟨_, rfl⟩
        rw [← gz]
        have o1 : oWc s z := by rw [gz]; exact oWc.w (by omega)
        obtain ⟨s', c1, c2, c3, c4⟩ := lq_195 P he r (i + 1) m true (narN N (rkQ (walkR T L H 0)) (2 * H.1 + 1) e.1 (hopN T L H e.1 i)) z (by omega) (by omega) (hW.ws o1) (by rw [gz]; exact N9.set hin (by omega)) (K9.keep (by rw [gz, uI_ne _ _ _ _ (by decide)])) (D.nar P ho il c0 (rk_2 P))
        exact ⟨s', c1, offG.tr o1 c2, fun h hh => by rw [c3 h hh, gz, uI_ne _ _ _ _ hh], c4⟩
/-- narrowFrom -/
theorem x_195 (P : HWp T L b H) (he : e ∈ walkR T L H 0) (hW : HWc T L q H s) (N9 : NRc H (walkR T L H 0) N s) (K9 : RKc (walkR T L H 0) s) (D : DM T L H (rkQ (walkR T L H 0)) N) : ∃ s', mjF (d + 3) 195 [.ref 91, .int (nI e.1)] (mjW0 s) = some (some (.int (b2 (narS T L H (rkQ (walkR T L H 0)) (2 * H.1 + 1) e.1 (fldT T L (H.2 e.1).1) 0 (N, false)).2)), mjW0 s') ∧ oWc s s' ∧ (∀ h, ¬ h = 94 → s'.1 h = s.1 h) ∧ NRc H (walkR T L H 0) (narS T L H (rkQ (walkR T L H 0)) (2 * H.1 + 1) e.1 (fldT T L (H.2 e.1).1) 0 (N, false)).1 s' := by
  have hQ := walkR_ok (x := 0) P (Nat.zero_le _)
  obtain ⟨e1, e2⟩ := hQ.2.1 e he
  have f3 := P.2.2.2.2.2 (H.2 e.1).1
  obtain ⟨s', c1, c2⟩ := lq_195 (d := d) P he (fldT T L (H.2 e.1).1) 0 mjN false N s (by omega) (by unfold mjN; omega) hW N9 K9 D
  refine ⟨s', ?_, c2⟩
  rw [e_195]
  unfold f_195 b_195_0
  rw [xV_91, x_189 (d := d) P hW e1 e2, bI_s]
  exact c1
theorem L194q_S (R : mjR) (k70 : Nat → Int32 → Int32 → mjH → mjU) (n a : Nat) (x y u : Int32) (hp : mjH) : L_194_84 R k70 (n + 1) a x y u hp = b_194_84 R k70 (L_194_84 R k70 n) a x y u hp := rfl
theorem L194r_S (R : mjR) (n a : Nat) (x y : Int32) (hp : mjH) : L_194_70 R (n + 1) a x y hp = b_194_70 R (L_194_70 R n) a x y hp := rfl
theorem L194k_S (R : mjR) (n a : Nat) (x : Int32) (hp : mjH) : L_194_38 R (n + 1) a x hp = b_194_38 R (L_194_38 R n) a x hp := rfl
/-- one round -/
theorem lq_194q (k70 : Nat → Int32 → Int32 → mjH → mjU) (P : HWp T L b H) : ∀ (l : WQ) (i m : Nat) (v : Bool) (N : Nat → Nat) (s : mjSt3), (walkR T L H 0).drop i = l → i + l.length = (walkR T L H 0).length → l.length < m → HWc T L q H s → NRc H (walkR T L H 0) N s → RKc (walkR T L H 0) s → DM T L H (rkQ (walkR T L H 0)) N → ∃ s', L_194_84 (mjF (d + 3)) k70 m 91 (b2 v) (nI k) (nI i) (mjW0 s) = k70 91 (b2 (narQ T L H (rkQ (walkR T L H 0)) (2 * H.1 + 1) l (N, v)).2) (nI (k + 1)) (mjW0 s') ∧ oWc s s' ∧ (∀ h, ¬ h = 94 → s'.1 h = s.1 h) ∧ NRc H (walkR T L H 0) (narQ T L H (rkQ (walkR T L H 0)) (2 * H.1 + 1) l (N, v)).1 s'
  | l, i, 0, v, N, s, _, _, hr, _, _, _, _ => by omega
  | [], i, m + 1, v, N, s, hd, ei, hr, hW, N9, K9, D => by
    have b1 := P.2.1.1
    have b2' := P.2.1.2
    have ln := (walkR_ok (x := 0) P (Nat.zero_le _)).len
    have ei' : i = (walkR T L H 0).length := by simpa using ei
    refine ⟨s, ?_, offG.rf, fun _ _ => rfl, N9⟩
    rw [L194q_S]
    unfold b_194_84
    rw [xg_91_3, N9.1, if_pos (nI_le (by omega) (by omega)), nI_1]
    rfl
  | e :: l, i, m + 1, v, N, s, hd, ei, hr, hW, N9, K9, D => by
    have b1 := P.2.1.1
    have b2' := P.2.1.2
    have ln := (walkR_ok (x := 0) P (Nat.zero_le _)).len
    rw [List.length_cons] at ei hr
    have he : (walkR T L H 0)[i]? = some e := by
      have h := List.getElem?_drop (xs := walkR T L H 0) (i := i) (j := 0)
      rw [hd] at h
      exact h.symm
    have hd2 : (walkR T L H 0).drop (i + 1) = l := by
      have h := congrArg (List.drop 1) hd
      rw [List.drop_drop] at h
      exact h
    obtain ⟨s1, a1, a2, a3, a4⟩ := x_195 (d := d) P (List.mem_of_getElem? he) hW N9 K9 D
    have D2 := (narS_ok P (inW.of he) (rk_2 P) (fldT T L (H.2 e.1).1) 0 (N, false) (by omega) D).1
    have eu : narQ T L H (rkQ (walkR T L H 0)) (2 * H.1 + 1) (e :: l) (N, v) = narQ T L H (rkQ (walkR T L H 0)) (2 * H.1 + 1) l ((narS T L H (rkQ (walkR T L H 0)) (2 * H.1 + 1) e.1 (fldT T L (H.2 e.1).1) 0 (N, false)).1, (narS T L H (rkQ (walkR T L H 0)) (2 * H.1 + 1) e.1 (fldT T L (H.2 e.1).1) 0 (N, false)).2 || v) := rfl
    rw [L194q_S, eu]
    generalize narS T L H (rkQ (walkR T L H 0)) (2 * H.1 + 1) e.1 (fldT T L (H.2 e.1).1) 0 (N, false) = S at *
    obtain ⟨s2, c1, c2, c3, c4⟩ := lq_194q k70 P l (i + 1) m (S.2 || v) S.1 s1 hd2 (by omega) (by omega) (hW.ws a2) a4 (K9.keep (a3 95 (by decide))) D2
    refine ⟨s2, ?_, offG.tr a2 c2, fun h hh => by rw [c3 h hh, a3 h hh], c4⟩
    unfold b_194_84 b_194_114 b_194_109 b_194_114
    rw [xg_91_3, N9.1, if_neg (nI_ge (by omega) (by omega)), xg_91_2, wa_92 (by omega), N9.2.1 i e he, xV_91, a1, bI_s, nI_1, ← c1]
    cases S.2 <;> cases v <;> rfl
theorem lq_194r (P : HWp T L b H) : ∀ (r k m : Nat) (v : Bool) (N : Nat → Nat) (s : mjSt3), k + r = 1000000 → r < m → HWc T L q H s → NRc H (walkR T L H 0) N s → RKc (walkR T L H 0) s → DM T L H (rkQ (walkR T L H 0)) N → ∃ s', L_194_70 (mjF (d + 3)) m 91 (b2 v) (nI k) (mjW0 s) = some (none, mjW0 s') ∧ oWc s s' ∧ (∀ h, ¬ h = 94 → s'.1 h = s.1 h) ∧ NRc H (walkR T L H 0) (if v = true then narR T L H (rkQ (walkR T L H 0)) (2 * H.1 + 1) (walkR T L H 0) r N else N) s'
  | r, k, 0, v, N, s, ek, hr, hW, N9, K9, D => by omega
  | 0, k, m + 1, v, N, s, ek, hr, hW, N9, K9, D => by
    have e : k = 1000000 := by omega
    refine ⟨s, ?_, offG.rf, fun _ _ => rfl, ?_⟩
    · rw [L194r_S]
      unfold b_194_70
      rw [if_pos (show (1000000 : Int32) ≤ nI k from nI_le (a := 1000000) (by omega) (by omega))]
    · cases v <;> exact N9
  | r + 1, k, m + 1, v, N, s, ek, hr, hW, N9, K9, D => by
    have b1 := P.2.1.1
    have b2' := P.2.1.2
    have ln := (walkR_ok (x := 0) P (Nat.zero_le _)).len
    rw [L194r_S]
    unfold b_194_70
    rw [if_neg (show ¬ (1000000 : Int32) ≤ nI k from nI_ge (b := 1000000) (by omega) (by decide))]
    cases v with
    | false =>
      rw [if_pos (show b2 false = 0 from rfl), if_neg (show ¬ false = true by decide)]
      exact ⟨s, rfl, offG.rf, fun _ _ => rfl, N9⟩
    | true =>
      rw [if_neg (show ¬ b2 true = 0 by decide), if_pos rfl]
      have eu : narR T L H (rkQ (walkR T L H 0)) (2 * H.1 + 1) (walkR T L H 0) (r + 1) N = if (narQ T L H (rkQ (walkR T L H 0)) (2 * H.1 + 1) (walkR T L H 0) (N, false)).2 = true then narR T L H (rkQ (walkR T L H 0)) (2 * H.1 + 1) (walkR T L H 0) r (narQ T L H (rkQ (walkR T L H 0)) (2 * H.1 + 1) (walkR T L H 0) (N, false)).1 else (narQ T L H (rkQ (walkR T L H 0)) (2 * H.1 + 1) (walkR T L H 0) (N, false)).1 := rfl
      have D2 := (narQ_ok P (rk_2 P) (walkR T L H 0) (N, false) (fun e he => ⟨e, he, rfl⟩) D).1
      obtain ⟨s1, a1, a2, a3, a4⟩ := lq_194q (d := d) (k := k) (L_194_70 (mjF (d + 3)) m) P (walkR T L H 0) 0 mjN false N s rfl (by omega) (by unfold mjN; omega) hW N9 K9 D
      rw [eu]
      generalize narQ T L H (rkQ (walkR T L H 0)) (2 * H.1 + 1) (walkR T L H 0) (N, false) = S at *
      obtain ⟨s2, c1, c2, c3, c4⟩ := lq_194r P r (k + 1) m S.2 S.1 s1 (by omega) (by omega) (hW.ws a2) a4 (K9.keep (a3 95 (by decide))) D2
      exact ⟨s2, a1.trans c1, offG.tr a2 c2, fun h hh => by rw [c3 h hh, a3 h hh], c4⟩
/-- ranks -/
theorem lq_194k (P : HWp T L b H) : ∀ (r i m : Nat) (s : mjSt3), i + r = (walkR T L H 0).length → r < m → HWc T L q H s → NRc H (walkR T L H 0) (prQ (walkR T L H 0)) s → s.1 95 0 = nI 0 → (∀ (k : Nat) (e : Nat × Nat × Nat × Nat), k < i → (walkR T L H 0)[k]? = some e → s.1 95 e.1 = nI (k + 1)) → ∃ s', L_194_38 (mjF (d + 3)) m 91 (nI i) (mjW0 s) = some (none, mjW0 s') ∧ oWc s s' ∧ (∀ h, ¬ (h = 94 ∨ h = 95) → s'.1 h = s.1 h) ∧ NRc H (walkR T L H 0) (nrC T L H) s'
  | r, i, 0, s, ei, hr, hW, N9, k0, kk => by omega
  | 0, i, m + 1, s, ei, hr, hW, N9, k0, kk => by
    have b1 := P.2.1.1
    have b2' := P.2.1.2
    have hQ := walkR_ok (x := 0) P (Nat.zero_le _)
    have ln := hQ.len
    have K9 : RKc (walkR T L H 0) s := by
      intro x hx
      rcases hx with hx | hx
      · rw [hx, show rkQ (walkR T L H 0) 0 = 0 from if_pos rfl]; exact k0
      · obtain ⟨k, e, he, ev⟩ := hx.at
        have := (List.getElem?_eq_some_iff.mp he).1
        rw [← ev, rkQ_at hQ he]
        exact kk k e (by omega) he
    obtain ⟨s', a1, a2, a3, a4⟩ := lq_194r (d := d) P 1000000 0 mjN true (prQ (walkR T L H 0)) s (by omega) (by unfold mjN; omega) hW N9 K9 (DM_0 P)
    refine ⟨s', ?_, a2, fun h hh => a3 h (by omega), a4⟩
    rw [L194k_S]
    unfold b_194_38
    rw [xg_91_3, N9.1, if_pos (nI_le (by omega) (by omega))]
    exact a1
  | r + 1, i, m + 1, s, ei, hr, hW, N9, k0, kk => by
    have b1 := P.2.1.1
    have b2' := P.2.1.2
    have hQ := walkR_ok (x := 0) P (Nat.zero_le _)
    have ln := hQ.len
    obtain ⟨e, he⟩ : ∃ e, (walkR T L H 0)[i]? = some e := ⟨_, List.getElem?_eq_getElem (by omega)⟩
    obtain ⟨e1, e2⟩ := hQ.2.1 e (List.mem_of_getElem? he)
    obtain ⟨z1, g1⟩ : ∃ y, y = uI s 95 (upd (s.1 95) e.1 (nI (i + 1))) := ⟨_, rfl⟩
    have o1 : oWc s z1 := by rw [g1]; exact oWc.w (by omega)
    have r1 : ∀ h, ¬ h = 95 → z1.1 h = s.1 h := fun h e => by rw [g1, uI_ne _ _ _ _ e]
    have v1 : ∀ j, z1.1 95 j = if j = e.1 then nI (i + 1) else s.1 95 j := fun j => by rw [g1, uI_same, upd_g]
    obtain ⟨s', a1, a2, a3, a4⟩ := lq_194k P r (i + 1) m z1 (by omega) (by omega) (hW.ws o1) (by
      unfold NRc at N9 ⊢
      rw [r1 91 (by decide), r1 92 (by decide), r1 94 (by decide)]
      exact N9) (by rw [v1, if_neg (by omega)]; exact k0) (fun k y hk hy => by
      rw [v1]
      by_cases g : y.1 = e.1
      · have := hQ.on1 hy he g
        have rk1 := rkQ_at hQ hy
        rw [this, rkQ_at hQ he] at rk1
        rw [if_pos g, show i + 1 = k + 1 from rk1]
      · rw [if_neg g]
        refine kk k y ?_ hy
        by_cases q : k = i
        · rw [q, he] at hy
          exact absurd (by rw [Option.some.inj hy]) g
        · omega)
    refine ⟨s', ?_, offG.tr o1 a2, fun h hh => by rw [a3 h hh, r1 h (by omega)], a4⟩
    rw [L194k_S]
    unfold b_194_38
    rw [xg_91_3, N9.1, if_neg (nI_ge (by omega) (by omega)), xg_91_7, xg_91_2, wa_92 (by omega), N9.2.1 i e he, nI_1, ws_95 (by omega), ← g1]
    exact a1
/-- findNearest -/
theorem x_194 (P : HWp T L b H) (hW : HWc T L q H s) (W : WCr H (walkR T L H 0) s) : ∃ s', mjF (d + 4) 194 [.ref 91] (mjW0 s) = some (none, mjW0 s') ∧ oWc s s' ∧ (∀ h, ¬ (h = 94 ∨ h = 95) → s'.1 h = s.1 h) ∧ NRc H (walkR T L H 0) (nrC T L H) s' := by
  have b1 := P.2.1.1
  have b2' := P.2.1.2
  have hQ := walkR_ok (x := 0) P (Nat.zero_le _)
  have ln := hQ.len
  obtain ⟨z1, g1⟩ : ∃ y, y = uI s 94 (va_cpy (s.1 93) (s.1 94) 0 0 (H.1 + 1)) := ⟨_, rfl⟩
  obtain ⟨z2, g2⟩ : ∃ y, y = uI z1 94 (upd (z1.1 94) 0 (nI 0)) := ⟨_, rfl⟩
  obtain ⟨z3, g3⟩ : ∃ y, y = uI z2 95 (upd (z2.1 95) 0 (nI 0)) := ⟨_, rfl⟩
  have o3 : oWc s z3 := offG.tr (b := z1) (by rw [g1]; exact oWc.w (by omega)) (offG.tr (b := z2) (by rw [g2]; exact oWc.w (by omega)) (by rw [g3]; exact oWc.w (by omega)))
  have r3 : ∀ h, ¬ (h = 94 ∨ h = 95) → z3.1 h = s.1 h := fun h e => by rw [g3, uI_ne _ _ _ _ (by omega), g2, uI_ne _ _ _ _ (by omega), g1, uI_ne _ _ _ _ (by omega)]
  have v3 : ∀ j, j ≤ H.1 → z3.1 94 j = if j = 0 then nI 0 else s.1 93 j := fun j hj => by
    rw [g3, uI_ne _ _ _ _ (by decide), g2, uI_same, upd_g]
    by_cases e : j = 0
    · rw [if_pos e, if_pos e]
    · rw [if_neg e, if_neg e, g1, uI_same]
      show (if 0 ≤ j ∧ j < 0 + (H.1 + 1) then s.1 93 (0 + (j - 0)) else s.1 94 j) = s.1 93 j
      rw [if_pos ⟨Nat.zero_le _, by omega⟩, show 0 + (j - 0) = j by omega]
  have N3 : NRc H (walkR T L H 0) (prQ (walkR T L H 0)) z3 := by
    refine ⟨by rw [r3 91 (by omega)]; exact W.1, fun k e he => by rw [r3 92 (by omega)]; exact W.2.1 k e he, fun x hx => ?_, fun o o1 o2 hn => by rw [v3 o o2, if_neg (by omega)]; exact W.2.2.2 o o2 hn⟩
    rcases hx with hx | hx
    · rw [hx, v3 0 (Nat.zero_le _), if_pos rfl, (GN_0 hQ).1]
    · obtain ⟨k, e, he, ev⟩ := hx.at
      have em := List.mem_of_getElem? he
      obtain ⟨yr1, yr2⟩ := hQ.2.1 e em
      rw [← ev, v3 e.1 (by omega), if_neg (by omega), prQ_at _ k e hQ.1 he]
      exact W.2.2.1 e em
  obtain ⟨s', a1, a2, a3, a4⟩ := lq_194k (d := d) P (walkR T L H 0).length 0 mjN z3 (by omega) (by unfold mjN; omega) (hW.ws o3) N3 (by rw [g3, uI_same, upd_g, if_pos rfl]) (fun k e hk _ => by omega)
  refine ⟨s', ?_, offG.tr o3 a2, fun h hh => by rw [a3 h hh, r3 h hh], a4⟩
  rw [e_194]
  unfold f_194 b_194_0
  rw [xg_91_4, xg_91_6, xg_91_0, xg_79_2, hW.2.1, nI_1, cp_94 (by omega), ← g1, xg_91_6, show sI (mjW0 z1) 94 (0 : Int32) 0 = sI (mjW0 z1) 94 (nI 0) (nI 0) from rfl, ws_94 (show 0 < 1335 by decide), ← g2, xg_91_7, show sI (mjW0 z2) 95 (0 : Int32) 0 = sI (mjW0 z2) 95 (nI 0) (nI 0) from rfl, ws_95 (show 0 < 1335 by decide), ← g3]
  exact a1
end MJB97
end
section
/-! ===== isLeak, learn: the class ===== -/
section MJB97B
variable {T : TT} {d b q o k i n m x y r t w p : Nat} {L : List CD} {H : HEAP} {Q : WQ} {N rk : Nat → Nat} {s s' : mjSt3} {e : Nat × Nat × Nat × Nat}
theorem NRc.r94 (N9 : NRc H (walkR T L H 0) (nrC T L H) s) : R94 T L H s := by
  intro o o1 o2
  by_cases g : inWb (walkR T L H 0) o = true
  · rw [if_pos g]; exact N9.2.2.1 o (Or.inr (inWb_iff.mp g))
  · rw [if_neg g]; exact N9.2.2.2 o o1 o2 (fun q => g (inWb_iff.mpr q))
theorem R94.inw (h : R94 T L H s) (P : HWp T L b H) (hx : inW (walkR T L H 0) x) : s.1 94 x = nI (nrC T L H x) := by
  have b := RA.bd P (Nat.zero_le _) hx
  rw [h x b.1 b.2, if_pos (inWb_iff.mpr hx)]
theorem lq_197x (R : mjR) (P : HWp T L b H) (h79 : s.1 79 2 = nI H.1) (h94 : R94 T L H s) (hw : w ≤ H.1) : ∀ (r k m x : Nat), k + r = H.1 + 1 → r < m → zW (walkR T L H 0) x → rkQ (walkR T L H 0) x < r → ∃ v : Bool, L_197_20 R m 91 (nI w) (nI x) (nI k) (mjW0 s) = some (some (.int (b2 v)), mjW0 s) ∧ (v = true ↔ ¬ w = 0 ∧ ¬ inC (nrC T L H) w x)
  | r, k, 0, x, e, hm, hx, hr => by omega
  | 0, k, m + 1, x, e, hm, hx, hr => by omega
  | r + 1, k, m + 1, x, e, hm, hx, hr => by
    have b1 := P.2.1.1
    have b2' := P.2.1.2
    have hQ := walkR_ok (x := 0) P (Nat.zero_le _)
    have G := (nrC_ok P).1.1
    have xl := hx.le hQ
    rw [L197_S]
    unfold b_197_20
    rw [xg_91_0, xg_79_2, h79, if_neg (nI_nlt (by omega) (by omega))]
    rcases hx with hx | hx
    · rw [hx, if_pos (show nI 0 ≤ 0 by decide)]
      unfold b_197_54 b_197_66
      by_cases g1 : w = 0
      · refine ⟨false, by rw [if_pos (show nI w = 0 by rw [g1]; rfl)]; rfl, ?_⟩
        exact ⟨fun h => (by cases h), fun h => absurd g1 h.1⟩
      · refine ⟨true, by rw [if_neg (nI_ne0 (by omega) (by omega)), if_pos (show nI 0 = 0 from rfl)]; rfl, ?_⟩
        exact ⟨fun _ => ⟨g1, fun c => g1 (c.zero G.1)⟩, fun _ => rfl⟩
    · have xb := RA.bd P (Nat.zero_le _) hx
      rw [if_neg (show ¬ nI x ≤ 0 from nI_ge (a := 0) (by omega) (by omega))]
      by_cases g3 : x = w
      · rw [if_pos (by rw [g3])]
        unfold b_197_54 b_197_66
        refine ⟨false, by rw [if_neg (nI_ne0 (by omega) (by omega)), if_neg (nI_ne0 (by omega) (by omega))]; rfl, ?_⟩
        exact ⟨fun h => (by cases h), fun h => absurd (by rw [g3]; exact inC.self) h.2⟩
      · obtain ⟨_, g4, g5⟩ := G.2.2.1 x hx
        obtain ⟨v, v1, v2⟩ := lq_197x R P h79 h94 hw r (k + 1) m (nrC T L H x) (by omega) (by omega) g4 (by omega)
        refine ⟨v, ?_, v2.trans ?_⟩
        · rw [if_neg (fun z => g3 ((nI_eq (by omega) (by omega)).mp z)), xg_91_6, wa_94 (by omega), h94.inw P hx, nI_1]
          exact v1
        · rw [inC.step (v := x)]
          exact ⟨fun h => ⟨h.1, fun c => c.elim (fun q => g3 q.symm) h.2⟩, fun h => ⟨h.1, fun c => h.2 (Or.inr c)⟩⟩
/-- isLeak -/
theorem x_197x (P : HWp T L b H) (hW : HWc T L q H s) (h94 : R94 T L H s) (o1 : 1 ≤ o) (o2 : o ≤ H.1) : mjF (d + 2) 197 [.ref 91, .int (nI o)] (mjW0 s) = some (some (.int (b2 (lkO T L H o))), mjW0 s) := by
  have b1 := P.2.1.1
  have b2' := P.2.1.2
  have hQ := walkR_ok (x := 0) P (Nat.zero_le _)
  have G := (nrC_ok P).1.1
  have hl : (H.2 o).2.1 0 < o := (P.1 o o1 o2).2.1 0
  have x49 : mjF (d + 1) 49 [.ref 79, .int (nI o), .int 0] (mjW0 s) = some (some (.int (nI ((H.2 o).2.1 0))), mjW0 s) := x_49 (d := d) (i := 0) hW.1 P.2.1 o1 o2 (P.n1 o1 o2)
  have pre : mjF (d + 2) 197 [.ref 91, .int (nI o)] (mjW0 s) = L_197_20 (mjF (d + 1)) mjN 91 (nI ((H.2 o).2.1 0)) (s.1 94 o) (nI 0) (mjW0 s) := by
    rw [e_197]
    unfold f_197 b_197_0
    rw [xg_91_0, xV_79, x49, bI_s, xg_91_6, wa_94 (by omega)]
    rfl
  rw [pre]
  by_cases g : inW (walkR T L H 0) o
  · have gz := G.2.2.1 o g
    have rl := rk_le hQ gz.2.1
    obtain ⟨v, v1, v2⟩ := lq_197x (mjF (d + 1)) P hW.2.1 h94 (show (H.2 o).2.1 0 ≤ H.1 by omega) (H.1 + 1) 0 mjN (nrC T L H o) (by omega) (by unfold mjN; omega) gz.2.1 (by omega)
    rw [h94.inw P g, v1]
    have ev : v = lkO T L H o := by
      rw [Bool.eq_iff_iff, v2]
      by_cases w0 : (H.2 o).2.1 0 = 0
      · refine ⟨fun h => absurd w0 h.1, fun h => ?_⟩
        unfold lkO at h
        rw [decide_eq_true w0] at h
        cases h
      · rw [lk_same P g w0 hl o2, inC.step (v := o)]
        exact ⟨fun h c => c.elim (fun q => by omega) h.2, fun h => ⟨w0, fun c => h (Or.inr c)⟩⟩
    rw [ev]
  · have e0 : lkO T L H o = false := by
      cases q : lkO T L H o with
      | false => rfl
      | true =>
        unfold lkO at q
        rw [Bool.and_eq_true] at q
        exact absurd (RA.zero P (show (H.2 o).2.1 0 ≤ H.1 by omega) (inWb_iff.mp q.2)) g
    rw [h94 o o1 o2, if_neg (fun q => g (inWb_iff.mp q)), e0]
    rw [show mjN = 99999999 + 1 from rfl, L197_S]
    unfold b_197_20 b_197_54 b_197_66
    rw [xg_91_0, xg_79_2, hW.2.1, if_neg (nI_nlt (by omega) (by omega)), if_pos (show (-1 : Int32) ≤ 0 by decide)]
    by_cases w0 : nI ((H.2 o).2.1 0) = 0
    · rw [if_pos w0]; rfl
    · rw [if_neg w0, if_neg (show ¬ (-1 : Int32) = 0 by decide)]; rfl
theorem lkN_S : lkN T L H (o + 1) = lkN T L H o + (if lkO T L H (o + 1) = true then 1 else 0) := rfl
theorem lkN_le : ∀ o, lkN T L H o ≤ o
  | 0 => Nat.le_refl _
  | o + 1 => by
    have := lkN_le o
    rw [lkN_S]
    by_cases g : lkO T L H (o + 1) = true
    · rw [if_pos g]; omega
    · rw [if_neg g]; omega
theorem lkN_mono : ∀ (n o : Nat), lkN T L H o ≤ lkN T L H (o + n)
  | 0, o => Nat.le_refl _
  | n + 1, o => by
    have := lkN_mono n o
    rw [show o + (n + 1) = (o + n) + 1 by omega, lkN_S]
    omega
theorem L193_S (R : mjR) (n a : Nat) (x : Int32) (hp : mjH) : L_193_30 R (n + 1) a x hp = b_193_30 R (L_193_30 R n) a x hp := rfl
/-- the LEAKS -/
theorem lq_193 (P : HWp T L b H) : ∀ (r p m : Nat) (s : mjSt3), p + r = H.1 → r < m → HWc T L q H s → R94 T L H s → s.1 91 5 = 1 → s.1 91 9 = nI (lkN T L H p) → (∀ o, o < p → lkO T L H (o + 1) = true → s.1 96 (lkN T L H o) = nI (o + 1)) → ∃ s', L_193_30 (mjF (d + 2)) m 91 (nI (p + 1)) (mjW0 s) = some (none, mjW0 s') ∧ oWc s s' ∧ s'.1 91 5 = 1 ∧ s'.1 91 9 = nI (lkN T L H H.1) ∧ (∀ o, o < H.1 → lkO T L H (o + 1) = true → s'.1 96 (lkN T L H o) = nI (o + 1)) ∧ s'.1 94 = s.1 94
  | r, p, 0, s, eo, hm, hW, h94, h5, h9, hl => by omega
  | 0, p, m + 1, s, eo, hm, hW, h94, h5, h9, hl => by
    have b1 := P.2.1.1
    have b2' := P.2.1.2
    have ep : p = H.1 := by omega
    refine ⟨s, ?_, offG.rf, h5, by rw [h9, ep], fun o ho => hl o (by omega), rfl⟩
    rw [L193_S]
    unfold b_193_30
    rw [xg_91_0, xg_79_2, hW.2.1, if_pos (nI_lt (by omega) (by omega))]
  | r + 1, p, m + 1, s, eo, hm, hW, h94, h5, h9, hl => by
    have b1 := P.2.1.1
    have b2' := P.2.1.2
    have nl := lkN_le (T := T) (L := L) (H := H) p
    rw [L193_S]
    unfold b_193_30 b_193_69
    rw [xg_91_0, xg_79_2, hW.2.1, if_neg (nI_nlt (by omega) (by omega)), xV_91, x_197x (d := d) P hW h94 (show 1 ≤ p + 1 by omega) (by omega), bI_s, nI_1]
    cases v : lkO T L H (p + 1) with
    | false =>
      rw [if_pos (show b2 false = 0 from rfl)]
      refine lq_193 P r (p + 1) m s (by omega) (by omega) hW h94 h5 (by rw [h9, lkN_S, v]; rfl) (fun o ho lo => ?_)
      by_cases q : o = p
      · rw [q, v] at lo; cases lo
      · exact hl o (by omega) lo
    | true =>
      obtain ⟨z1, g1⟩ : ∃ y, y = uI s 96 (upd (s.1 96) (lkN T L H p) (nI (p + 1))) := ⟨_, rfl⟩
      obtain ⟨z2, g2⟩ : ∃ y, y = uI z1 91 (upd (z1.1 91) 9 (nI (lkN T L H p + 1))) := ⟨_, rfl⟩
      have c1 : z1.1 91 9 = nI (lkN T L H p) := by rw [g1, uI_ne _ _ _ _ (by decide)]; exact h9
      have o2' : oWc s z2 := offG.tr (b := z1) (by rw [g1]; exact oWc.w (by omega)) (by rw [g2]; exact oWc.w (by omega))
      have e94 : z2.1 94 = s.1 94 := by rw [g2, uI_ne _ _ _ _ (by decide), g1, uI_ne _ _ _ _ (by decide)]
      have e96 : ∀ j, z2.1 96 j = if j = lkN T L H p then nI (p + 1) else s.1 96 j := fun j => by rw [g2, uI_ne _ _ _ _ (by decide), g1, uI_same, upd_g]
      have sp : lkN T L H (p + 1) = lkN T L H p + 1 := by rw [lkN_S, v]; rfl
      obtain ⟨s', a1, a2, a3, a4, a5, a6⟩ := lq_193 P r (p + 1) m z2 (by omega) (by omega) (hW.ws o2') (fun o o1 o2 => by rw [e94]; exact h94 o o1 o2) (by rw [g2, uI_same, upd_g, if_neg (by decide), g1, uI_ne _ _ _ _ (by decide)]; exact h5) (by rw [g2, uI_same, upd_g, if_pos rfl, sp]) (fun o ho lo => by
        rw [e96]
        by_cases q : o = p
        · rw [q, if_pos rfl]
        · have mo := lkN_mono (T := T) (L := L) (H := H) (p - (o + 1)) (o + 1)
          rw [show o + 1 + (p - (o + 1)) = p by omega, lkN_S, if_pos lo] at mo
          rw [if_neg (by omega)]
          exact hl o (by omega) lo)
      refine ⟨s', ?_, offG.tr o2' a2, a3, a4, a5, by rw [a6, e94]⟩
      rw [if_neg (show ¬ b2 true = 0 by decide), xg_91_8, xg_91_9, h9, ws_96 (by omega), ← g1, xg_91_9, c1, nI_1, xp_91_9, ← g2]
      exact a1
/-- learn -/
theorem x_193 (P : HWp T L b H) (hW : HWc T L q H s) (K : KNc T L H s) : ∃ s', mjF (d + 5) 193 [.ref 91] (mjW0 s) = some (none, mjW0 s') ∧ oWc s s' ∧ s'.1 91 5 = 1 ∧ s'.1 91 9 = nI (lkN T L H H.1) ∧ (∀ o, o < H.1 → lkO T L H (o + 1) = true → s'.1 96 (lkN T L H o) = nI (o + 1)) ∧ R94 T L H s' := by
  have b1 := P.2.1.1
  have b2' := P.2.1.2
  rcases K with h0 | ⟨h1, h2, h3, h4⟩
  · obtain ⟨z1, g1⟩ : ∃ y, y = uI s 91 (upd (s.1 91) 5 1) := ⟨_, rfl⟩
    have o1 : oWc s z1 := by rw [g1]; exact oWc.w (by omega)
    obtain ⟨s2, a1, a2, a3, a4⟩ := x_186R (d := d) (sh := 0) P (Nat.zero_le _) (hW.ws o1)
    have a1' : mjF (d + 4) 186 [.ref 91, .int 0, .int 0] (mjW0 z1) = some (none, mjW0 s2) := a1
    have hW2 := (hW.ws o1).ws a2.toC
    obtain ⟨s3, c1, c2, c3, c4⟩ := x_194 (d := d) P hW2 a3
    obtain ⟨z4, g4⟩ : ∃ y, y = uI s3 91 (upd (s3.1 91) 9 0) := ⟨_, rfl⟩
    have o4 : oWc s3 z4 := by rw [g4]; exact oWc.w (by omega)
    have e94 : z4.1 94 = s3.1 94 := by rw [g4, uI_ne _ _ _ _ (by decide)]
    have h5 : z4.1 91 5 = 1 := by
      rw [g4, uI_same, upd_g, if_neg (by decide), c3 91 (by omega), a2.1 91 5 (by omega), g1, uI_same, upd_g, if_pos rfl]
    have r4 : R94 T L H z4 := fun o o1 o2 => by rw [e94]; exact c4.r94 o o1 o2
    obtain ⟨s5, k1, k2, k3, k4, k5, k6⟩ := lq_193 (d := d + 2) P H.1 0 mjN z4 (by omega) (by unfold mjN; omega) ((hW2.ws c2).ws o4) r4 h5 (by rw [g4, uI_same, upd_g, if_pos rfl]; rfl) (fun o ho => by omega)
    refine ⟨s5, ?_, offG.tr o1 (offG.tr a2.toC (offG.tr c2 (offG.tr o4 k2))), k3, k4, k5, fun o o1 o2 => by rw [k6]; exact r4 o o1 o2⟩
    rw [e_193]
    unfold f_193 b_193_0
    rw [xg_91_5, h0, if_pos rfl, xp_91_5 (by decide), ← g1, xV_91, a1', bN_s, xV_91, c1, bN_s, xp_91_9, ← g4]
    exact k1
  · refine ⟨s, ?_, offG.rf, h1, h2, h3, h4⟩
    rw [e_193]
    unfold f_193 b_193_0
    rw [xg_91_5, h1, if_neg (show ¬ ((1 : Int32) = 0) by decide)]
/-- leakAt: as the reference counts -/
theorem lkAt_row (hl : ∀ o, o < H.1 → lkO T L H (o + 1) = true → s.1 96 (lkN T L H o) = nI (o + 1)) (hb : H.1 ≤ 1334) (ha : x < 2 ^ 31) : ∀ (r p : Nat), p + r = H.1 → lkN T L H p ≤ x → lkAt T L H (nI x) r (p + 1) (lkN T L H p) = if x < lkN T L H H.1 then s.1 96 x else -1
  | 0, p, e, h => by
    show (-1 : Int32) = _
    rw [show p = H.1 by omega] at h
    rw [if_neg (by omega)]
  | r + 1, p, e, h => by
    have nl := lkN_le (T := T) (L := L) (H := H) p
    have eu : lkAt T L H (nI x) (r + 1) (p + 1) (lkN T L H p) = if lkO T L H (p + 1) = true then (if nI (lkN T L H p) = nI x then nI (p + 1) else lkAt T L H (nI x) r (p + 1 + 1) (lkN T L H p + 1)) else lkAt T L H (nI x) r (p + 1 + 1) (lkN T L H p) := rfl
    rw [eu]
    by_cases g : lkO T L H (p + 1) = true
    · have sp : lkN T L H (p + 1) = lkN T L H p + 1 := by rw [lkN_S, if_pos g]
      rw [if_pos g]
      by_cases g2 : lkN T L H p = x
      · have mo := lkN_mono (T := T) (L := L) (H := H) (H.1 - (p + 1)) (p + 1)
        rw [show p + 1 + (H.1 - (p + 1)) = H.1 by omega] at mo
        rw [if_pos (by rw [g2]), if_pos (by omega), ← g2]
        exact (hl p (by omega) g).symm
      · rw [if_neg (fun q => g2 ((nI_eq (by omega) (by omega)).mp q)), ← sp]
        exact lkAt_row hl hb ha r (p + 1) (by omega) (by omega)
    · have sp : lkN T L H (p + 1) = lkN T L H p := by rw [lkN_S, if_neg g]; rfl
      rw [if_neg g, ← sp]
      exact lkAt_row hl hb ha r (p + 1) (by omega) (by omega)
end MJB97B
end
section
/-! ===== way, above, leaks, leak, past, on both ===== -/
section MJB98
variable {T : TT} {d N b kb q i o c m n wm cm k k' : Nat} {t : PT} {L : List CD} {rs : List RcM} {z : PB} {tr : Bool} {cs : Nat → Nat} {H : HEAP} {A : AMS} {Q : WQ} {s s' s1 s2 : mjSt3} {a v : Int32} {e e' : Nat × Nat × Nat × Nat}
theorem WOK.one (hQ : WOK H Q) (h1 : Q[k]? = some e) (h2 : Q[k']? = some e') (he : e.1 = e'.1) : e = e' := by
  have nd := hQ.1
  have l1 := (List.getElem?_eq_some_iff.mp h1).1
  have l2 := (List.getElem?_eq_some_iff.mp h2).1
  have m1 : (Q.map (fun e => e.1))[k]? = some e.1 := by rw [List.getElem?_map, h1]; rfl
  have m2 : (Q.map (fun e => e.1))[k']? = some e'.1 := by rw [List.getElem?_map, h2]; rfl
  have ek : k = k' := by
    exact (List.getElem?_inj (by rw [List.length_map]; exact l1) nd).mp (by rw [m1, m2, he])
  rw [ek, h2] at h1
  exact (Option.some.inj h1).symm
theorem walkO_ok (P : HWp T L b H) (o1 : 1 ≤ o) (o2 : o ≤ H.1) : WOK H (walkO T L H o) := (cls_go (Nat.zero_le _) P (H.1 + 1) 0 [(o, 0, 0, 0)] (by omega) (WOK.nil.come (Q := []) (fo := 0) (fi := 0) (d := 0) o1 o2 (Or.inl ⟨rfl, rfl⟩)) (fun j y hj _ => absurd hj (Nat.not_lt_zero j))).2.1
theorem IRN.hwp (G : IPG T N b q t rs kb z tr cs s) (R : IRN i T b q t rs z tr cs wm cm A s) : HWp T t.1 b A.1 := by
  have hn := G.2.1.1.1.1.1
  exact ⟨R.2.2.1.1.1, R.hb G, G.1.1, hn.1, fun c hc => vK.n5 hn hc, G.2.1.2.2.1⟩
theorem IRN.hwr (G : IPG T N b q t rs kb z tr cs s) (R : IRN i T b q t rs z tr cs wm cm A s) : HWr T t.1 b A.1 s := by
  obtain ⟨_, rf, _, _, r184⟩ := G.ref
  have PGs := G.2.2.2.1
  have g13 := PGs.2.2.2.2.1
  have g16 := PGs.2.2.2.2.2.2.1
  have Ac := G.2.1.1.1.1
  have hh : ∀ m, m < nMem t.1 → hmM t.1 m < t.1.length := fun m hm => (g16 m hm).2.1
  refine ⟨R.2.2.2.2.1.2.1, R.2.2.2.2.1.1.2.2.1.2.1, fun c hc => ⟨(rf c hc).1, (rf c hc).2.2.2.1⟩, fun c hc i hi => ?_⟩
  obtain ⟨m, m1, m2, m3, m4⟩ := fld_ex Ac (fun c hc => (g13 c hc).2.2.2.2.2) hc hi
  rw [← m4, r184 c hc m m1 m2 m3, ob_at Ac hh hc m1 m2 m3]
theorem IRN.hwc (G : IPG T N b q t rs kb z tr cs s) (R : IRN i T b q t rs z tr cs wm cm A s) : HWc T t.1 q A.1 s := by
  have PGs := G.2.2.2.1
  exact ⟨R.2.2.2.1.2.1, R.2.2.2.1.1.2.2.1.2.1, R.2.2.2.2.2.1.2.2, fun _ => ⟨PGs.1.1, PGs.2.2.1.1, PGs.2.2.2.1.2⟩⟩
theorem HWr.lo (h : HWr T L b H s) (e : ∀ h, 97 ≤ h → s'.1 h = s.1 h) : HWr T L b H s' := by
  obtain ⟨h1, h2, h3, h4⟩ := h
  exact ⟨h1.keep (fun x hx => e x (by omega)), by rw [e 97 (by omega)]; exact h2, fun c hc => by rw [e 104 (by omega), e 109 (by omega)]; exact h3 c hc, fun c hc i hi => by rw [e 184 (by omega)]; exact h4 c hc i hi⟩
/-- no OBJECTS -/
theorem IZ.hwc (h : IZ s) : ∃ (T : TT) (H : HEAP), HWc T [] (s.2.2 91 1) H s ∧ HWp T [] 0 H ∧ H.1 = 0 := by
  refine ⟨fun _ => (0, 0, 0, 0), (0, fun _ => (0, fun _ => 0, fun _ => 0)), ⟨fun o o1 o2 => ?_, h.2.2.1.1, rfl, fun x => ?_⟩, ⟨fun o o1 o2 => ?_, ⟨Nat.zero_le _, Nat.le_refl _⟩, Nat.zero_le _, Nat.zero_le _, fun c hc => absurd hc (Nat.not_lt_zero c), fun c => Nat.zero_le _⟩, rfl⟩
  · have o2' : o ≤ 0 := o2
    omega
  · have x' : 1 ≤ 0 := x
    omega
  · have o2' : o ≤ 0 := o2
    omega
/-- behind the class's walker and the reference's -/
theorem Inv.wkR (hB : IBs s) (G : IPG T N b q t rs kb z tr cs s) (R : IRN i T b q t rs z tr cs wm cm A s) (o1 : oWc s s1) (K1 : KNc T t.1 A.1 s1) (o2 : oWl s1 s2) (K2 : KNm T t.1 A.1 s2) : Inv (i + 1) s2 := by
  have hq := G.isq
  have f1 : ∀ h, ¬ (91 ≤ h ∧ h ≤ 96) → s1.1 h = s.1 h := fun h e => funext fun j => o1.1 h j e
  have f2 : ∀ h, h < 97 ∨ h = 98 ∨ (99 ≤ h ∧ h ≤ 176) ∨ h = 184 → s2.1 h = s1.1 h := fun h e => funext fun j => o2.1 h j (by omega)
  have u2 : ∀ j, ¬ (j = 124 ∨ j = 126 ∨ j = 127) → s2.1 97 j = s1.1 97 j := fun j e => o2.1 97 j (by omega)
  have l2 : s2.2 = s.2 := (Prod.ext (funext fun h => funext fun j => o2.2.1 h j (fun x => x)) o2.2.2).trans (Prod.ext (funext fun h => funext fun j => o1.2.1 h j (fun x => x)) o1.2.2)
  have g : ∀ h, ¬ (91 ≤ h ∧ h ≤ 96) → (h < 97 ∨ h = 98 ∨ (99 ≤ h ∧ h ≤ 176) ∨ h = 184) → s2.1 h = s.1 h := fun h e e' => by rw [f2 h e', f1 h e]
  have u : ∀ j, ¬ (j = 124 ∨ j = 126 ∨ j = 127) → s2.1 97 j = s.1 97 j := fun j e => by rw [u2 j e, f1 97 (by omega)]
  obtain ⟨w4, ⟨p1, p2, p3, p4⟩, k1, M, Mr, x1, _, _⟩ := R
  refine ⟨hB.keep (by rw [g 0 (by omega) (by omega)]) (g 1 (by omega) (by omega)) ⟨u 1 (by omega), u 9 (by omega)⟩ (g 98 (by omega) (by omega)) ⟨by rw [l2], by rw [l2]⟩ (by rw [l2]) (by rw [l2]; exact hB.2.2.2.2.2), Or.inr ⟨T, N, b, q, t, rs, kb, z, tr, cs, G.keep ⟨u 9 (by omega), u 10 (by omega)⟩ ⟨by rw [l2], by rw [g 0 (by omega) (by omega)]⟩ (fun J => J.keep (fun x y w => by have := inB_nr w; rw [g x (by omega) (by omega)]) (fun x y _ => by rw [l2])) (fun x hx => g x (by omega) (by omega)) (fun x _ => by rw [l2]), Or.inr ⟨wm, cm, A, w4, ⟨p1, p2, p3, by omega⟩, k1, M.hi (fun h e => g h (by omega) (by omega)), (Mr.lo (fun h e => f1 h (by omega))).wk u2 (fun h e => f2 h (by omega)), by rw [l2]; exact x1, K1.keep (fun h e => f2 h (by omega)), K2⟩⟩⟩
theorem Inv.wkZ (I : Inv i s) (hz : IZ s) (o1 : oWc s s1) (K1 : KNz s1) : Inv (i + 1) s1 := by
  have f1 : ∀ h, ¬ (91 ≤ h ∧ h ≤ 96) → s1.1 h = s.1 h := fun h e => funext fun j => o1.1 h j e
  have l1 : s1.2 = s.2 := Prod.ext (funext fun h => funext fun j => o1.2.1 h j (fun x => x)) o1.2.2
  have hz1 : IZ s1 := by
    obtain ⟨a1, a2, a3, a4, _⟩ := hz
    exact ⟨by rw [f1 97 (by omega), f1 82 (by omega)]; exact a1, by rw [f1 82 (by omega)]; exact a2, by rw [f1 79 (by omega)]; exact a3, by rw [f1 83 (by omega)]; exact a4, K1⟩
  have hB : IBs s1 := I.1.keep (by rw [f1 0 (by omega)]) (f1 1 (by omega)) ⟨by rw [f1 97 (by omega)], by rw [f1 97 (by omega)]⟩ (f1 98 (by omega)) ⟨by rw [l1], by rw [l1]⟩ (by rw [l1]) (by rw [l1]; exact I.1.2.2.2.2.2)
  refine ⟨hB, ?_⟩
  rcases I.2 with ⟨b1, b2', _⟩ | ⟨T, N, b, q, t, rs, kb, z, tr, cs, G, _⟩
  · exact Or.inl ⟨by rw [f1 0 (by omega)]; exact b1, by rw [f1 97 (by omega)]; exact b2', hz1⟩
  · have hq := G.isq
    exact Or.inr ⟨T, N, b, q, t, rs, kb, z, tr, cs, G.keep ⟨by rw [f1 97 (by omega)], by rw [f1 97 (by omega)]⟩ ⟨by rw [l1], by rw [f1 0 (by omega)]⟩ (fun J => J.lo (fun h e => f1 h (by omega)) (fun h _ => by rw [l1])) (fun x hx => f1 x (by omega)) (fun x _ => by rw [l1]), Or.inl hz1⟩
theorem oWs.kn (o : oWs s s') (K : KNc T L H s) : KNc T L H s' := by
  unfold KNc R94
  rw [o.1 91 5 (by omega), o.1 91 9 (by omega), show s'.1 94 = s.1 94 from funext fun j => o.1 94 j (by omega), show s'.1 96 = s.1 96 from funext fun j => o.1 96 j (by omega)]
  exact K
theorem h246_wl (G : IPG T N b q t rs kb z tr cs s) (R : IRN i T b q t rs z tr cs wm cm A s) (e : ∀ h, 97 ≤ h → s1.1 h = s.1 h) : ∀ (d x : Nat) (s' : mjSt3), 1 ≤ x → x ≤ A.1.1 → oWl s1 s' → mjF (d + 1) 246 [.ref 97, .int (nI x)] (mjW0 s') = some (some (.int 1), mjW0 s') := by
  intro d x s' x1 x2 o
  have B := R.hb G
  have b1 := B.1
  have b2' := B.2
  have r103 : s'.1 97 103 = nI A.1.1 := by rw [o.1 97 103 (by omega), e 97 (by omega)]; exact R.2.2.2.2.1.1.2.2.1.2.1
  have r96 : s'.1 97 96 = nI A.2.2.2.2.2.2.2.2.1 := by rw [o.1 97 96 (by omega), e 97 (by omega)]; exact R.2.2.2.2.1.1.1.1
  have p1 := R.2.1.1
  have p3 := R.2.1.2.1
  rw [x_246g, r103, r96, if_neg]
  rintro (h | h | h)
  · exact nI_nle (by omega) (by omega) h
  · exact nI_nlt (b := 1) x1 (by omega) h
  · exact nI_nlt x2 (by omega) h
theorem pair_way (I : Inv i s) (a v : Int32) : PairOK (Inv (i + 1)) 220 245 [.int a, .int v] s := by
  have J : Inv (i + 1) s := I.mono (by omega)
  rcases I.obj a with ⟨c43, r246⟩ | ⟨T, N, b, q, t, rs, kb, z, tr, cs, wm, cm, A, o, G, R, B, eo, o1, o2, c43, r246⟩
  · refine ⟨-1, s, s, ?_, ?_, J⟩
    · rw [e_220 (d := 1998)]
      unfold f_220 b_220_0 b_220_34
      rw [xg_0_11, xV_79, c43 1997, bI_s, if_pos rfl]
    · rw [e_245 (d := 1998)]
      unfold f_245 b_245_0 b_245_16
      rw [xV_97, r246 1997, bI_s, if_pos rfl]
  · rcases R.obj G v with ⟨d43, d246⟩ | ⟨c, ec, hc1, hc2, d43, d246⟩
    · refine ⟨-1, s, s, ?_, ?_, J⟩
      · rw [e_220 (d := 1998)]
        unfold f_220 b_220_0 b_220_34
        rw [xg_0_11, xV_79, c43 1997, bI_s, if_neg (show ¬ ((1 : Int32) = 0) by decide), xg_0_11, xV_79, d43 1997, bI_s, if_pos rfl]
      · rw [e_245 (d := 1998)]
        unfold f_245 b_245_0 b_245_16
        rw [xV_97, r246 1997, bI_s, if_neg (show ¬ ((1 : Int32) = 0) by decide), xV_97, d246 1997, bI_s, if_pos rfl]
    · have P := R.hwp G
      obtain ⟨s1, w1, x1, x2, x3⟩ := x_185 (d := 1993) (c := c) P (R.hwc G) o1 o2 hc2
      have f1 : ∀ h, 97 ≤ h → s1.1 h = s.1 h := fun h e => funext fun j => x2.1 h j (by omega)
      obtain ⟨s2, w2, y1, y2, y3, y4, y5, y6⟩ := x_245 (d := 1996) P ((R.hwr G).lo f1) o1 o2 hc1 hc2 (h246_wl G R f1)
      have ew : w1 = w2 := by
        have hok := walkO_ok (T := T) (L := t.1) P o1 o2
        rcases x3 with ⟨x4, x5⟩ | ⟨k1, e1, x4, x5, x6⟩
        · rcases y6 with ⟨y7, y8⟩ | ⟨k2, e2, y7, y8, y9⟩
          · rw [x4, y7]
          · exact absurd ⟨e2, List.mem_of_getElem? y7, y8⟩ x5
        · rcases y6 with ⟨y7, y8⟩ | ⟨k2, e2, y7, y8, y9⟩
          · exact absurd ⟨e1, List.mem_of_getElem? x4, x5⟩ y8
          · rw [x6, y9, hok.one x4 y7 (by rw [x5, y8])]
      have K2 : KNm T t.1 A.1 s2 := (R.2.2.2.2.2.2.2).gen ⟨by rw [y3, f1 97 (by omega)], by rw [y4, f1 97 (by omega)]⟩ (by rw [y5, f1 181 (by omega)])
      refine ⟨w1, s1, s2, ?_, ?_, Inv.wkR I.1 G R x2.toC (x2.kn R.2.2.2.2.2.2.1) y2 K2⟩
      · rw [e_220 (d := 1998)]
        unfold f_220 b_220_0 b_220_34
        rw [xg_0_11, xV_79, c43 1997, bI_s, if_neg (show ¬ ((1 : Int32) = 0) by decide), xg_0_11, xV_79, d43 1997, bI_s, if_neg (show ¬ ((1 : Int32) = 0) by decide), xg_0_13, xV_91, eo, ec, x1, bI_s]
      · rw [ew, eo, ec]
        exact y1
theorem pair_above (I : Inv i s) (a : Int32) : PairOK (Inv (i + 1)) 221 257 [.int a] s := by
  have J : Inv (i + 1) s := I.mono (by omega)
  rcases I.obj a with ⟨c43, r246⟩ | ⟨T, N, b, q, t, rs, kb, z, tr, cs, wm, cm, A, o, G, R, B, eo, o1, o2, c43, r246⟩
  · refine ⟨-1, s, s, ?_, ?_, J⟩
    · rw [e_221 (d := 1998)]
      unfold f_221 b_221_0
      rw [xg_0_11, xV_79, c43 1997, bI_s, if_pos rfl]
    · rw [e_257 (d := 1998)]
      unfold f_257 b_257_0
      rw [xV_97, r246 1997, bI_s, if_pos rfl]
  · have P := R.hwp G
    have b1 := B.1
    have b2' := B.2
    obtain ⟨s1, x1, x2, x3, x4, x5, x6⟩ := x_193 (d := 1992) P (R.hwc G) R.2.2.2.2.2.2.1
    have f1 : ∀ h, 97 ≤ h → s1.1 h = s.1 h := fun h e => funext fun j => x2.1 h j (by omega)
    obtain ⟨s2, w2, y1, y2, y3, y4, y5, y6⟩ := x_257 (d := 1995) P ((R.hwr G).lo f1) o1 o2 (fun d => h246_wl G R f1 d o s1 o1 o2 offG.rf)
    have K2 : KNm T t.1 A.1 s2 := (R.2.2.2.2.2.2.2).gen ⟨by rw [y3, f1 97 (by omega)], by rw [y4, f1 97 (by omega)]⟩ (by rw [y5, f1 181 (by omega)])
    have ew : w2 = s1.1 94 o := by
      rw [x6 o o1 o2]
      rcases y6 with ⟨y7, y8⟩ | ⟨k, e, y7, y8, y9⟩
      · rw [if_neg (fun q => y8 (inWb_iff.mp q)), y7]
      · have ns := nr_same P y7
        rw [y8] at ns
        rw [if_pos (inWb_iff.mpr ⟨e, List.mem_of_getElem? y7, y8⟩), y9, ns]
    refine ⟨s1.1 94 o, s1, s2, ?_, by rw [eo, ← ew]; exact y1, Inv.wkR I.1 G R x2 (Or.inr ⟨x3, x4, x5, x6⟩) y2 K2⟩
    have x192 : mjF 1998 192 [.ref 91, .int (nI o)] (mjW0 s) = some (some (.int (s1.1 94 o)), mjW0 s1) := by
      rw [e_192 (d := 1997)]
      unfold f_192 b_192_0
      rw [xV_91, x1, bN_s, xg_91_6, wa_94 (by omega)]
    have c43' := c43 1997
    rw [eo] at c43' ⊢
    rw [e_221 (d := 1998)]
    unfold f_221 b_221_0
    rw [xg_0_11, xV_79, c43', bI_s, if_neg (show ¬ ((1 : Int32) = 0) by decide), xg_0_13, xV_91, x192, bI_s]
/-- a RUN, or none -/
theorem Inv.run (I : Inv i s) : IZ s ∨ ∃ T N b q t rs kb z tr cs wm cm A, IPG T N b q t rs kb z tr cs s ∧ IRN i T b q t rs z tr cs wm cm A s := by
  rcases I.2 with ⟨_, _, h⟩ | ⟨T, N, b, q, t, rs, kb, z, tr, cs, G, hR⟩
  · exact Or.inl h
  · rcases hR with h | ⟨wm, cm, A, R⟩
    · exact Or.inl h
    · exact Or.inr ⟨T, N, b, q, t, rs, kb, z, tr, cs, wm, cm, A, G, R⟩
theorem IRN.n96 (R : IRN i T b q t rs z tr cs wm cm A s) (e : s1.1 97 = s.1 97) : ¬ s1.1 97 96 = 0 := by
  rw [e, show s.1 97 96 = nI A.2.2.2.2.2.2.2.2.1 from R.2.2.2.2.1.1.1.1]
  have p1 := R.2.1.1
  have p3 := R.2.1.2.1
  exact nI_ne0 (by omega) (by omega)
/-- no OBJECTS: nothing to know -/
theorem KNz_of {H : HEAP} (h0 : H.1 = 0) (h5 : s1.1 91 5 = 1) (h9 : s1.1 91 9 = nI (lkN T L H H.1)) : KNz s1 := by
  intro T' L' H' h0'
  refine Or.inr ⟨h5, ?_, fun o ho => by omega, fun o o1 o2 => by omega⟩
  rw [h9, h0, h0']
  rfl
theorem pair_leaks (I : Inv i s) : PairOK (Inv (i + 1)) 222 251 [] s := by
  have fin : ∀ s1, mjF 1997 193 [.ref 91] (mjW0 s) = some (none, mjW0 s1) → mjF 1999 222 [.ref 0] (mjW0 s) = some (some (.int (s1.1 91 9)), mjW0 s1) := by
    intro s1 x1
    rw [e_222 (d := 1998)]
    unfold f_222 b_222_0
    rw [xg_0_13, xV_91, e_198 (d := 1997)]
    unfold f_198 b_198_0
    rw [xV_91, x1, bN_s, xg_91_9, bI_s]
  rcases I.run with hz | ⟨T, N, b, q, t, rs, kb, z, tr, cs, wm, cm, A, G, R⟩
  · obtain ⟨T, H, hW, P, h0⟩ := hz.hwc
    obtain ⟨s1, x1, x2, x3, x4, x5, x6⟩ := x_193 (d := 1992) P hW (hz.2.2.2.2 T [] H h0)
    have e9 : s1.1 91 9 = 0 := by rw [x4, h0]; rfl
    refine ⟨0, s1, s1, by rw [← e9]; exact fin s1 x1, ?_, I.wkZ hz x2 (KNz_of h0 x3 x4)⟩
    rw [e_251 (d := 1998)]
    unfold f_251 b_251_0
    rw [xg_97_96, show s1.1 97 = s.1 97 from funext fun j => x2.1 97 j (by omega), hz.1.1, if_pos rfl]
  · have P := R.hwp G
    obtain ⟨s1, x1, x2, x3, x4, x5, x6⟩ := x_193 (d := 1992) P (R.hwc G) R.2.2.2.2.2.2.1
    have f1 : ∀ h, 97 ≤ h → s1.1 h = s.1 h := fun h e => funext fun j => x2.1 h j (by omega)
    have K0 : KNm T t.1 A.1 s1 := (R.2.2.2.2.2.2.2).gen ⟨by rw [f1 97 (by omega)], by rw [f1 97 (by omega)]⟩ (f1 181 (by omega))
    obtain ⟨s2, y1, y2, y3⟩ := x_251 (d := 1994) P ((R.hwr G).lo f1) K0 (R.n96 (f1 97 (by omega)))
    exact ⟨_, s1, s2, by rw [← x4]; exact fin s1 x1, y1, Inv.wkR I.1 G R x2 (Or.inr ⟨x3, x4, x5, x6⟩) y2 y3⟩
theorem pair_leak (I : Inv i s) (a : Int32) : PairOK (Inv (i + 1)) 223 255 [.int a] s := by
  have pre : ∀ s1 t, mjF 1997 193 [.ref 91] (mjW0 s) = some (none, mjW0 s1) → s1.1 91 9 = nI t → mjF 1999 223 [.ref 0, .int a] (mjW0 s) = bI (if a < 0 then some (some (.int (-1)), mjW0 s1) else (if nI t ≤ a then some (some (.int (-1)), mjW0 s1) else gR (mjW0 s1) 91 10 8 (fun v3 => aI (mjW0 s1) v3 a (fun v4 => some (some (.int v4), mjW0 s1))))) (fun v2 hp3 => some (some (.int v2), hp3)) := by
    intro s1 t x1 t2
    rw [e_223 (d := 1998)]
    unfold f_223 b_223_0
    rw [xg_0_13, xV_91, e_199 (d := 1997)]
    unfold f_199 b_199_0 b_199_25
    rw [xV_91, x1, bN_s, xg_91_9, t2]
  rcases I.run with hz | ⟨T, N, b, q, t, rs, kb, z, tr, cs, wm, cm, A, G, R⟩
  · obtain ⟨T, H, hW, P, h0⟩ := hz.hwc
    obtain ⟨s1, x1, x2, x3, x4, x5, x6⟩ := x_193 (d := 1992) P hW (hz.2.2.2.2 T [] H h0)
    have e9 : s1.1 91 9 = nI 0 := by rw [x4, h0]; rfl
    refine ⟨-1, s1, s1, ?_, ?_, I.wkZ hz x2 (KNz_of h0 x3 x4)⟩
    · rw [pre s1 0 x1 e9]
      by_cases h1 : a < 0
      · rw [if_pos h1]; rfl
      · rw [if_neg h1, if_pos (show nI 0 ≤ a from Int32.not_lt.mp h1)]; rfl
    · rw [e_255 (d := 1998)]
      unfold f_255 b_255_0 b_255_11
      rw [xg_97_96, show s1.1 97 = s.1 97 from funext fun j => x2.1 97 j (by omega), hz.1.1, if_pos rfl]
  · have P := R.hwp G
    have b1 := P.2.1.1
    have b2' := P.2.1.2
    obtain ⟨s1, x1, x2, x3, x4, x5, x6⟩ := x_193 (d := 1992) P (R.hwc G) R.2.2.2.2.2.2.1
    have f1 : ∀ h, 97 ≤ h → s1.1 h = s.1 h := fun h e => funext fun j => x2.1 h j (by omega)
    have K0 : KNm T t.1 A.1 s1 := (R.2.2.2.2.2.2.2).gen ⟨by rw [f1 97 (by omega)], by rw [f1 97 (by omega)]⟩ (f1 181 (by omega))
    have nl := lkN_le (T := T) (L := t.1) (H := A.1) A.1.1
    by_cases a0 : a < 0
    · refine ⟨-1, s1, s1, by rw [pre s1 _ x1 x4, if_pos a0]; rfl, ?_, Inv.wkR I.1 G R x2 (Or.inr ⟨x3, x4, x5, x6⟩) offG.rf K0⟩
      rw [e_255 (d := 1998)]
      unfold f_255 b_255_0 b_255_11
      rw [xg_97_96, if_neg (R.n96 (f1 97 (by omega))), if_neg (Int32.not_le.mpr a0)]
    · obtain ⟨x, x31, ex⟩ := nI_of a0
      obtain ⟨s2, y1, y2, y3⟩ := x_255 (d := 1994) P ((R.hwr G).lo f1) K0 (R.n96 (f1 97 (by omega))) (Int32.not_lt.mp a0)
      have lr := lkAt_row (s := s1) x5 (show A.1.1 ≤ 1334 by omega) x31 A.1.1 0 (by omega) (Nat.zero_le _)
      refine ⟨lkAt T t.1 A.1 a A.1.1 1 0, s1, s2, ?_, y1, Inv.wkR I.1 G R x2 (Or.inr ⟨x3, x4, x5, x6⟩) y2 y3⟩
      have lr' : lkAt T t.1 A.1 a A.1.1 1 0 = if x < lkN T t.1 A.1 A.1.1 then s1.1 96 x else -1 := by rw [ex]; exact lr
      rw [lr', pre s1 _ x1 x4, if_neg a0, ex]
      by_cases g : x < lkN T t.1 A.1 A.1.1
      · rw [if_pos g, if_neg (nI_ge (by omega) (by omega)), xg_91_8, wa_96 (by omega)]
        rfl
      · rw [if_neg g, if_pos (nI_le (by omega) x31)]
        rfl
theorem pair_past (I : Inv i s) (a v : Int32) : PairOK (Inv (i + 1)) 224 256 [.int a, .int v] s := by
  have J : Inv (i + 1) s := I.mono (by omega)
  rcases I.obj a with ⟨c43, r246⟩ | ⟨T, N, b, q, t, rs, kb, z, tr, cs, wm, cm, A, o, G, R, B, eo, o1, o2, c43, r246⟩
  · refine ⟨-1, s, s, ?_, ?_, J⟩
    · rw [e_224 (d := 1998)]
      unfold f_224 b_224_0
      rw [xg_0_11, xV_79, c43 1997, bI_s, if_pos rfl]
    · rw [e_256 (d := 1998)]
      unfold f_256 b_256_0 b_256_12
      rw [xV_97, r246 1997, bI_s, if_pos rfl]
  · have P := R.hwp G
    have b1 := P.2.1.1
    have b2' := P.2.1.2
    have ol := (P.1 o o1 o2).2.1 0
    obtain ⟨s1, x1, x2, x3, x4, x5, x6⟩ := x_193 (d := 1992) P (R.hwc G) R.2.2.2.2.2.2.1
    have hW1 := (R.hwc G).ws x2
    have x197 := x_197x (d := 1995) P hW1 x6 o1 o2
    have x49 : mjF 1997 49 [.ref 79, .int (nI o), .int 0] (mjW0 s1) = some (some (.int (nI ((A.1.2 o).2.1 0))), mjW0 s1) := x_49 (d := 1996) (i := 0) hW1.1 P.2.1 o1 o2 (P.n1 o1 o2)
    obtain ⟨s2, y1, y2, y3, y4⟩ := x_186R (d := 1993) (sh := (A.1.2 o).2.1 0) P (by omega) hW1
    have hW2 := hW1.ws y2.toC
    have c43' := c43 1997
    have pre : mjF 1999 224 [.ref 0, .int a, .int v] (mjW0 s) = bI (mjF 1998 200 [.ref 91, .int (nI o), .int v] (mjW0 s)) (fun v5 hp6 => some (some (.int v5), hp6)) := by
      rw [eo] at c43' ⊢
      rw [e_224 (d := 1998)]
      unfold f_224 b_224_0
      rw [xg_0_11, xV_79, c43', bI_s, if_neg (show ¬ ((1 : Int32) = 0) by decide), xg_0_13, xV_91]
    have K1 : KNc T t.1 A.1 s1 := Or.inr ⟨x3, x4, x5, x6⟩
    have cl : ∃ r s3, mjF 1999 224 [.ref 0, .int a, .int v] (mjW0 s) = some (some (.int r), mjW0 s3) ∧ oWc s s3 ∧ KNc T t.1 A.1 s3 ∧ ((r = -1 ∧ (v < 0 ∨ lkO T t.1 A.1 o = false)) ∨ (¬ v < 0 ∧ lkO T t.1 A.1 o = true ∧ ∃ (k : Nat) (e : Nat × Nat × Nat × Nat), (walkR T t.1 A.1 ((A.1.2 o).2.1 0))[k]? = some e ∧ e.1 = o ∧ ((r = -1 ∧ ¬ v ≤ nI e.2.2.2) ∨ ∃ x, v = nI x ∧ x < 2 ^ 31 ∧ x ≤ e.2.2.2 ∧ r = nI (upQ (walkR T t.1 A.1 ((A.1.2 o).2.1 0)) x (k + 1) k)))) := by
      rw [pre, e_200 (d := 1997)]
      unfold f_200 b_200_0 b_200_43
      rw [xV_91, x1, bN_s, xV_91, x197, bI_s]
      cases lk : lkO T t.1 A.1 o with
      | false =>
        rw [if_pos (show b2 false = 0 from rfl)]
        exact ⟨_, s1, rfl, x2, K1, Or.inl ⟨rfl, Or.inr rfl⟩⟩
      | true =>
        have o12 : oWc s s2 := offG.tr x2 y2.toC
        have K2 : KNc T t.1 A.1 s2 := y2.kn K1
        rw [if_neg (show ¬ b2 true = 0 by decide), xg_91_0, xV_79, x49, bI_s, xV_91, y1, bN_s, xV_91]
        have g : inW (walkR T t.1 A.1 ((A.1.2 o).2.1 0)) o := by
          unfold lkO at lk
          rw [Bool.and_eq_true] at lk
          exact inWb_iff.mp lk.2
        obtain ⟨e, e1, e2⟩ := g
        obtain ⟨k, hk⟩ := List.getElem?_of_mem e1
        have ln := y4.len
        have kl := (List.getElem?_eq_some_iff.mp hk).1
        have ds := y4.dist k k e (Nat.le_refl _) hk
        have x191 := x_191 (d := 1996) (by omega) hW2.2.1 y3 y4 hk
        rw [e2] at x191
        rw [x191, bI_s]
        by_cases h1 : v < 0
        · rw [if_pos h1]; exact ⟨_, s2, rfl, o12, K2, Or.inl ⟨rfl, Or.inl h1⟩⟩
        · rw [if_neg h1]
          by_cases h2 : v ≤ nI e.2.2.2
          · obtain ⟨x, x31, ex⟩ := nI_of h1
            have xl : x ≤ e.2.2.2 := by
              rw [ex] at h2
              exact (nI_leI (by omega) (by omega)).mp h2
            have l := lq_200 (x := x) (mjF 1997) (show A.1.1 ≤ 1334 by omega) y3 y4 (by omega) (k + 1) k mjN e (by omega) (by unfold mjN; omega) hk
            rw [e2] at l
            rw [if_pos h2, ex, l]
            exact ⟨_, s2, rfl, o12, K2, Or.inr ⟨by rw [← ex]; exact h1, rfl, k, e, hk, e2, Or.inr ⟨x, rfl, x31, xl, rfl⟩⟩⟩
          · rw [if_neg h2]; exact ⟨_, s2, rfl, o12, K2, Or.inr ⟨h1, rfl, k, e, hk, e2, Or.inl ⟨rfl, h2⟩⟩⟩
    obtain ⟨r, s3, z1, z2, z3, z4⟩ := cl
    have f3 : ∀ h, 97 ≤ h → s3.1 h = s.1 h := fun h e => funext fun j => z2.1 h j (by omega)
    have K0 : KNm T t.1 A.1 s3 := (R.2.2.2.2.2.2.2).gen ⟨by rw [f3 97 (by omega)], by rw [f3 97 (by omega)]⟩ (f3 181 (by omega))
    obtain ⟨s4, w2, u1, u2, u3, u4⟩ := x_256 (d := 1994) (a := v) P ((R.hwr G).lo f3) K0 o1 o2 (fun d => h246_wl G R f3 d o s3 o1 o2 offG.rf)
    have ew : w2 = r := by
      rcases z4 with ⟨z5, z6⟩ | ⟨z5, z6, k, e, z7, z8, z9⟩
      · rcases u4 with ⟨u5, _⟩ | ⟨u5, u6, _⟩
        · rw [z5, u5]
        · rcases z6 with z6 | z6
          · exact absurd z6 (Int32.not_lt.mpr u5)
          · rw [z6] at u6; cases u6
      · rcases u4 with ⟨_, u5 | u5⟩ | ⟨u5, u6, k', e', u7, u8, u9⟩
        · exact absurd (Int32.not_lt.mp z5) u5
        · rw [z6] at u5; cases u5
        · have ee := y4.one z7 u7 (by rw [z8, u8])
          have kk := rkQ_at y4 z7
          rw [ee, rkQ_at y4 u7] at kk
          rcases z9 with ⟨z10, z11⟩ | ⟨x, z10, x31, z11, z12⟩
          · rcases u9 with ⟨u10, _⟩ | ⟨x', u10, u11, _⟩
            · rw [z10, u10]
            · have ds := y4.dist k' k' e' (Nat.le_refl _) u7
              have kl := (List.getElem?_eq_some_iff.mp u7).1
              have ln := y4.len
              rw [ee, u10] at z11
              exact absurd (nI_le u11 (by omega)) z11
          · have ds := y4.dist k k e (Nat.le_refl _) z7
            have kl := (List.getElem?_eq_some_iff.mp z7).1
            have ln := y4.len
            rcases u9 with ⟨_, u11⟩ | ⟨x', u10, u11, u12⟩
            · rw [← ee, z10] at u11
              exact absurd (nI_le z11 (by omega)) u11
            · have xx : x' = x := (nI_eq (by rw [← ee] at u11; omega) x31).mp (u10.symm.trans z10)
              rw [z12, u12, xx, show k' = k by omega]
    exact ⟨r, s3, s4, z1, by rw [eo, ← ew]; exact u1, Inv.wkR I.1 G R z2 z3 u2 u3⟩
end MJB98
end
