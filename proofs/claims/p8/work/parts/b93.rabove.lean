/-! ===== above: the reference ===== -/
/-- the nearest of the first j of a WAY without which o is not come to -/
def nrA (T : TT) (L : List CD) (H : HEAP) (Q : WQ) (k o : Nat) : Nat → Nat
  | 0 => 0
  | j + 1 => if inWb (walkR T L H (upQ Q j (k + 1) k)) o = true then nrA T L H Q k o j else upQ Q j (k + 1) k
section MJB93
variable {T : TT} {d b o i n m c k dd : Nat} {L : List CD} {H : HEAP} {Q : WQ} {s s' : mjSt3} {a v : Int32} {e : Nat × Nat × Nat × Nat}
theorem upQ_at {x : Nat} (he : Q[k]? = some e) : upQ Q x (n + 1) k = if e.2.2.2 ≤ x then e.1 else upQ Q x n e.2.2.1 := by
  show (match Q[k]? with
    | none => 0
    | some e => if e.2.2.2 ≤ x then e.1 else upQ Q x n e.2.2.1) = _
  rw [he]
theorem upQ_fu (hQ : WOK H Q) {x : Nat} : ∀ (n k : Nat), k < n → upQ Q x n k = upQ Q x (k + 1) k
  | 0, k, h => by omega
  | n + 1, k, h => by
    cases he : Q[k]? with
    | none =>
      have e0 : ∀ n, upQ Q x (n + 1) k = 0 := fun n => by
        show (match Q[k]? with
          | none => 0
          | some e => if e.2.2.2 ≤ x then e.1 else upQ Q x n e.2.2.1) = 0
        rw [he]
      rw [e0, e0]
    | some e =>
      rw [upQ_at he, upQ_at he]
      by_cases g : e.2.2.2 ≤ x
      · rw [if_pos g, if_pos g]
      · rw [if_neg g, if_neg g]
        rcases hQ.2.2 k e he with ⟨_, h'⟩ | ⟨h0, h1, _⟩
        · omega
        · rw [upQ_fu hQ n e.2.2.1 (by omega)]
          by_cases q : k = 0
          · omega
          · obtain ⟨k', ek⟩ : ∃ k', k = k' + 1 := ⟨k - 1, by omega⟩
            have : e.2.2.1 < k := h1
            rw [upQ_fu hQ k e.2.2.1 (by omega)]
/-- it is an OBJECT -/
theorem upQ_ok (hQ : WOK H Q) {x : Nat} : ∀ (n k : Nat) (e : Nat × Nat × Nat × Nat), k < n → Q[k]? = some e → 1 ≤ upQ Q x n k ∧ upQ Q x n k ≤ H.1
  | 0, k, e, h, he => by omega
  | n + 1, k, e, h, he => by
    rw [upQ_at he]
    by_cases g : e.2.2.2 ≤ x
    · rw [if_pos g]; exact hQ.2.1 e (List.mem_of_getElem? he)
    · rw [if_neg g]
      rcases hQ.2.2 k e he with ⟨_, h'⟩ | ⟨h0, h1, p, p1, _⟩
      · omega
      · exact upQ_ok hQ n e.2.2.1 p (by omega) p1
theorem sub1 (x : Int32) : x - 1 = x + (-1) := by rw [Int32.sub_eq_add_neg]
theorem L257a_S (R : mjR) (n x : Nat) (y u w z : Int32) (hp : mjH) : L_257_39 R (n + 1) x y u w z hp = b_257_39 R (L_257_39 R n) x y u w z hp := rfl
theorem L257b_S (R : mjR) (n x : Nat) (y u : Int32) (hp : mjH) : L_257_75 R (n + 1) x y u hp = b_257_75 R (L_257_75 R n) x y u hp := rfl
theorem lq_257a (R : mjR) (hb : H.1 ≤ 1334) (hQ : WOK H Q) (hd : dd ≤ 1334) : ∀ (j m l : Nat) (e : Nat × Nat × Nat × Nat) (s : mjSt3), j < m → Q[l]? = some e → e.2.2.2 = j → j ≤ dd → (∀ x, x < j → upQ Q x (l + 1) l = upQ Q x (k + 1) k) → (∀ x, j ≤ x → x < dd → s.1 187 x = nI (upQ Q x (k + 1) k)) → WRr H Q s → ∃ s', L_257_39 R m 97 (nI o) (nI l) (nI dd) (nI j + (-1)) (mjW0 s) = L_257_75 R mjN 97 (nI o) (nI dd + (-1)) (mjW0 s') ∧ (∀ h, ¬ h = 187 → s'.1 h = s.1 h) ∧ s'.2 = s.2 ∧ ∀ x, x < dd → s'.1 187 x = nI (upQ Q x (k + 1) k)
  | j, 0, l, e, s, hm, he, hj, jd, hu, w, W => by omega
  | 0, m + 1, l, e, s, hm, he, hj, jd, hu, w, W => by
    refine ⟨s, ?_, fun _ _ => rfl, rfl, fun x hx => w x (by omega) hx⟩
    rw [L257a_S]
    unfold b_257_39
    rw [if_pos (show nI 0 + (-1) < (0 : Int32) by decide), sub1]
  | j + 1, m + 1, l, e, s, hm, he, hj, jd, hu, w, W => by
    have ln := hQ.len
    have kl := (List.getElem?_eq_some_iff.mp he).1
    obtain ⟨w1, w2, w3⟩ := W.2.1 l e he
    rcases hQ.2.2 l e he with ⟨_, h'⟩ | ⟨h0, h1, p, p1, p2, p3⟩
    · omega
    · rw [if_neg (show ¬ e.2.1 = 0 by omega)] at w2
      have pl := (List.getElem?_eq_some_iff.mp p1).1
      have val : upQ Q j (k + 1) k = p.1 := by
        rw [← hu j (by omega), upQ_at he, if_neg (by omega), upQ_fu hQ l e.2.2.1 h1, upQ_at p1, if_pos (by omega)]
      obtain ⟨z1, g1⟩ : ∃ y, y = uI s 187 (upd (s.1 187) j (nI p.1)) := ⟨_, rfl⟩
      have r1 : ∀ h, ¬ h = 187 → z1.1 h = s.1 h := fun h e => by rw [g1, uI_ne _ _ _ _ e]
      obtain ⟨s', a1, a2, a3, a4⟩ := lq_257a R hb hQ hd j m e.2.2.1 p z1 (by omega) p1 (by omega) (by omega) (fun x hx => by
        rw [← hu x (by omega), upQ_at he, if_neg (by omega), upQ_fu hQ l e.2.2.1 h1]) (fun x h1 h2 => by
        rw [g1, uI_same, upd_g]
        by_cases q : x = j
        · rw [if_pos q, q, val]
        · rw [if_neg q]; exact w x (by omega) h2) (by
        unfold WRr at W ⊢
        rw [r1 97 (by decide), r1 177 (by decide), r1 178 (by decide), r1 179 (by decide), r1 180 (by decide)]
        exact W)
      refine ⟨s', ?_, fun h e => by rw [a2 h e, r1 h e], by rw [a3, g1]; rfl, a4⟩
      rw [L257a_S]
      unfold b_257_39
      rw [nI_m, if_neg (nI_pos (by omega)), xg_97_122, wa_179 (by omega), w2, xg_97_136, xg_97_121, wa_178 (by omega), (W.2.1 e.2.2.1 p p1).1, ws_187 (by omega), ← g1]
      exact a1
theorem lq_257b (P : HWp T L b H) (hQ : WOK H Q) (he : Q[k]? = some e) (hd : dd ≤ 1334) (ho2 : o ≤ H.1) : ∀ (j m : Nat) (s : mjSt3), j < m → j ≤ dd → HWr T L b H s → (∀ x, x < dd → s.1 187 x = nI (upQ Q x (k + 1) k)) → ∃ s', L_257_75 (mjF (d + 3)) m 97 (nI o) (nI j + (-1)) (mjW0 s) = some (some (.int (nI (nrA T L H Q k o j))), mjW0 s') ∧ oWr s s'
  | j, 0, s, hm, jd, hW, w => by omega
  | 0, m + 1, s, hm, jd, hW, w => by
    refine ⟨s, ?_, offG.rf⟩
    rw [L257b_S]
    unfold b_257_75
    rw [if_pos (show nI 0 + (-1) < (0 : Int32) by decide)]
    rfl
  | j + 1, m + 1, s, hm, jd, hW, w => by
    have b1 := P.2.1.1
    have b2' := P.2.1.2
    obtain ⟨u1, u2⟩ := upQ_ok hQ (x := j) (k + 1) k e (by omega) he
    obtain ⟨s1, a1, a2, a3, a4⟩ := x_254 (d := d) (sh := upQ Q j (k + 1) k) P u2 hW
    have e187 : s1.1 187 = s.1 187 := funext fun y => a2.1 187 y (by omega)
    have st : nrA T L H Q k o (j + 1) = if inWb (walkR T L H (upQ Q j (k + 1) k)) o = true then nrA T L H Q k o j else upQ Q j (k + 1) k := rfl
    have pre : L_257_75 (mjF (d + 3)) (m + 1) 97 (nI o) (nI (j + 1) + (-1)) (mjW0 s) = (if inWb (walkR T L H (upQ Q j (k + 1) k)) o = true then L_257_75 (mjF (d + 3)) m 97 (nI o) (nI j + (-1)) (mjW0 s1) else some (some (.int (nI (upQ Q j (k + 1) k))), mjW0 s1)) := by
      rw [L257b_S]
      unfold b_257_75
      rw [nI_m, if_neg (nI_pos (by omega)), xg_97_136, wa_187 (by omega), w j (by omega), xV_97, a1, bN_s, xg_97_120, wa_177 (by omega), a3.2.2 o ho2, b2_i, xg_97_136, wa_187 (by omega), e187, w j (by omega)]
    rw [pre, st]
    by_cases g : inWb (walkR T L H (upQ Q j (k + 1) k)) o = true
    · rw [if_pos g, if_pos g]
      obtain ⟨s2, c1, c2⟩ := lq_257b P hQ he hd ho2 j m s1 (by omega) (by omega) (hW.wr a2) (by rw [e187]; exact w)
      exact ⟨s2, c1, offG.tr a2 c2⟩
    · rw [if_neg g, if_neg g]
      exact ⟨s1, rfl, a2⟩
theorem x_257 (P : HWp T L b H) (hW : HWr T L b H s) (ho1 : 1 ≤ o) (ho2 : o ≤ H.1) (h246 : ∀ d, mjF (d + 1) 246 [.ref 97, .int (nI o)] (mjW0 s) = some (some (.int 1), mjW0 s)) : ∃ s' v, mjF (d + 4) 257 [.ref 97, .int (nI o)] (mjW0 s) = some (some (.int v), mjW0 s') ∧ oWl s s' ∧ s'.1 97 126 = s.1 97 126 ∧ s'.1 97 127 = s.1 97 127 ∧ s'.1 181 = s.1 181 ∧ ((v = -1 ∧ ¬ inW (walkR T L H 0) o) ∨ ∃ (k : Nat) (e : Nat × Nat × Nat × Nat), (walkR T L H 0)[k]? = some e ∧ e.1 = o ∧ v = nI (nrA T L H (walkR T L H 0) k o e.2.2.2)) := by
  have b1 := P.2.1.1
  have b2' := P.2.1.2
  obtain ⟨s1, a1, a2, a3, a4⟩ := x_254 (d := d) (sh := 0) P (Nat.zero_le _) hW
  obtain ⟨v, c1, c2⟩ := x_250 (d := d + 2) (by omega) a3 a4 ho2
  have a1' : mjF (d + 3) 254 [.ref 97, .int 0] (mjW0 s) = some (none, mjW0 s1) := a1
  obtain ⟨q1, q2, q3⟩ := oWr_181 a2
  have pre : mjF (d + 4) 257 [.ref 97, .int (nI o)] (mjW0 s) = f_257 (mjF (d + 3)) 97 (nI o) (mjW0 s) := e_257
  unfold f_257 b_257_0 at pre
  rw [xV_97, h246 (d + 2), bI_s, if_neg (show ¬ ((1 : Int32) = 0) by decide), xV_97, a1', bN_s, xV_97, c1, bI_s] at pre
  rcases c2 with ⟨c3, c4⟩ | ⟨k, e, c3, c4, c5⟩
  · refine ⟨s1, -1, ?_, a2.l, q3 126 (by decide), q3 127 (by decide), q1, Or.inl ⟨rfl, c4⟩⟩
    rw [pre, c3, if_neg (show ¬ (0 : Int32) ≤ -1 by decide)]
  · have ln := a4.len
    have kl := (List.getElem?_eq_some_iff.mp c3).1
    have ds := a4.dist k k e (Nat.le_refl _) c3
    obtain ⟨s2, f1, f2, f3, f4⟩ := lq_257a (o := o) (dd := e.2.2.2) (k := k) (mjF (d + 3)) (show H.1 ≤ 1334 by omega) a4 (by omega) e.2.2.2 mjN k e s1 (by unfold mjN; omega) c3 rfl (Nat.le_refl _) (fun _ _ => rfl) (fun x h1 h2 => by omega) a3
    have o12 : oWl s1 s2 := offG_of (fun h j w => by rw [f2 h (by omega)]) f3
    obtain ⟨s3, k1, k2⟩ := lq_257b (d := d) (o := o) (dd := e.2.2.2) P a4 c3 (by omega) ho2 e.2.2.2 mjN s2 (by unfold mjN; omega) (Nat.le_refl _) ((hW.wr a2).wl o12) f4
    obtain ⟨r1, r2, r3⟩ := oWr_181 k2
    refine ⟨s3, _, ?_, offG.tr a2.l (offG.tr o12 k2.l), by rw [r3 126 (by decide), f2 97 (by decide), q3 126 (by decide)], by rw [r3 127 (by decide), f2 97 (by decide), q3 127 (by decide)], by rw [r1, f2 181 (by decide), q1], Or.inr ⟨k, e, c3, c4, rfl⟩⟩
    rw [pre, c5, if_pos (nI_pos' (by omega)), xg_97_123, wa_180 (by omega), (a3.2.1 k e c3).2.2, sub1]
    exact f1.trans k1
end MJB93
