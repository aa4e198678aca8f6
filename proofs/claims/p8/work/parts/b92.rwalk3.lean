/-! ===== way, above, leaks, leak, past: the reference ===== -/
/-- the LEAK of that number -/
def lkAt (T : TT) (L : List CD) (H : HEAP) (a : Int32) : Nat → Nat → Nat → Int32
  | 0, _, _ => -1
  | r + 1, o, c => if lkO T L H o = true then (if nI c = a then nI o else lkAt T L H a r (o + 1) (c + 1)) else lkAt T L H a r (o + 1) c
/-- up a WAY from place k to where x HOPS were made -/
def upQ (Q : WQ) (x : Nat) : Nat → Nat → Nat
  | 0, _ => 0
  | n + 1, k => match Q[k]? with
    | none => 0
    | some e => if e.2.2.2 ≤ x then e.1 else upQ Q x n e.2.2.1
section MJB92
variable {T : TT} {d b o i n m c k : Nat} {L : List CD} {H : HEAP} {Q : WQ} {s s' : mjSt3} {a v : Int32} {e : Nat × Nat × Nat × Nat}
theorem WOK.dist (hQ : WOK H Q) : ∀ (n k : Nat) (e : Nat × Nat × Nat × Nat), k ≤ n → Q[k]? = some e → e.2.2.2 ≤ k
  | n, k, e, hk, he => by
    rcases hQ.2.2 k e he with ⟨_, h⟩ | ⟨_, h1, p, p1, p2, p3⟩
    · omega
    · cases n with
      | zero => omega
      | succ n =>
        have := WOK.dist hQ n e.2.2.1 p (by omega) p1
        omega
theorem x_245 (P : HWp T L b H) (hW : HWr T L b H s) (ho1 : 1 ≤ o) (ho2 : o ≤ H.1) (hc1 : 1 ≤ c) (hc2 : c ≤ H.1) (h246 : ∀ (d x : Nat) (s' : mjSt3), 1 ≤ x → x ≤ H.1 → oWl s s' → mjF (d + 1) 246 [.ref 97, .int (nI x)] (mjW0 s') = some (some (.int 1), mjW0 s')) : ∃ s' v, mjF (d + 3) 245 [.ref 97, .int (nI o), .int (nI c)] (mjW0 s) = some (some (.int v), mjW0 s') ∧ oWl s s' ∧ s'.1 97 126 = s.1 97 126 ∧ s'.1 97 127 = s.1 97 127 ∧ s'.1 181 = s.1 181 ∧ ((v = -1 ∧ ¬ inW (walkO T L H o) c) ∨ ∃ (k : Nat) (e : Nat × Nat × Nat × Nat), (walkO T L H o)[k]? = some e ∧ e.1 = c ∧ v = nI e.2.2.2) := by
  have b1 := P.2.1.1
  have b2' := P.2.1.2
  obtain ⟨s1, s2, s3, a1, a2, a3, a4, a5, a6⟩ := x_walkO (d := d) P ho1 ho2 hW
  obtain ⟨v, c1, c2⟩ := x_250 (d := d + 1) (by omega) a5 a6 hc2
  obtain ⟨k1, k2, k3⟩ := oWr_181 a4
  have pre : mjF (d + 3) 245 [.ref 97, .int (nI o), .int (nI c)] (mjW0 s) = (if 0 ≤ v then gR (mjW0 s3) 97 12 123 (fun v10 => aI (mjW0 s3) v10 v (fun v11 => some (some (.int v11), mjW0 s3))) else some (some (.int (-1)), mjW0 s3)) := by
    rw [e_245]
    unfold f_245 b_245_0 b_245_16
    rw [xV_97, h246 (d + 1) o s ho1 ho2 offG.rf, bI_s, if_neg (show ¬ ((1 : Int32) = 0) by decide), xV_97, h246 (d + 1) c s hc1 hc2 offG.rf, bI_s, if_neg (show ¬ ((1 : Int32) = 0) by decide), xV_97, a1, bN_s, xV_97, a2, bN_s, xV_97, a3, bN_s, xV_97, c1, bI_s]
  rcases c2 with ⟨c3, c4⟩ | ⟨k, e, c3, c4, c5⟩
  · refine ⟨s3, -1, ?_, a4.l, k3 126 (by decide), k3 127 (by decide), k1, Or.inl ⟨rfl, c4⟩⟩
    rw [pre, c3, if_neg (show ¬ (0 : Int32) ≤ -1 by decide)]
  · have kl := (List.getElem?_eq_some_iff.mp c3).1
    have ln := a6.len
    refine ⟨s3, nI e.2.2.2, ?_, a4.l, k3 126 (by decide), k3 127 (by decide), k1, Or.inr ⟨k, e, c3, c4, rfl⟩⟩
    rw [pre, c5, if_pos (nI_pos' (by omega)), xg_97_123, wa_180 (by omega), (a5.2.1 k e c3).2.2]
theorem x_251 (P : HWp T L b H) (hW : HWr T L b H s) (K : KNm T L H s) (h96 : ¬ s.1 97 96 = 0) : ∃ s', mjF (d + 5) 251 [.ref 97] (mjW0 s) = some (some (.int (nI (lkN T L H H.1))), mjW0 s') ∧ oWl s s' ∧ KNm T L H s' := by
  obtain ⟨s', a1, a2, a3, a4⟩ := x_252 (d := d) P hW K
  have h127 : s'.1 97 127 = nI (lkN T L H H.1) := by
    rcases a4 with h | h
    · rw [a3] at h; exact absurd h (by decide)
    · exact h.2.2
  refine ⟨s', ?_, a2, a4⟩
  rw [e_251]
  unfold f_251 b_251_0
  rw [xg_97_96, if_neg h96, xV_97, a1, bN_s, xg_97_127, h127]
theorem L255_S (R : mjR) (n x : Nat) (y u w : Int32) (hp : mjH) : L_255_21 R (n + 1) x y u w hp = b_255_21 R (L_255_21 R n) x y u w hp := rfl
theorem lq_255 (R : mjR) (hb : H.1 ≤ 1334) (h : s.1 97 103 = nI H.1) (K : ∀ o, 1 ≤ o → o ≤ H.1 → s.1 181 o = b2 (lkO T L H o)) : ∀ (r o c n : Nat), o + r = H.1 + 1 → 1 ≤ o → r < n → L_255_21 R n 97 a (nI c) (nI o) (mjW0 s) = some (some (.int (lkAt T L H a r o c)), mjW0 s)
  | r, o, c, 0, e, o1, hr => by omega
  | 0, o, c, n + 1, e, o1, hr => by
    rw [L255_S]
    unfold b_255_21
    rw [xg_97_103, h, if_pos (nI_lt (by omega) (by omega))]
    rfl
  | r + 1, o, c, n + 1, e, o1, hr => by
    have st : lkAt T L H a (r + 1) o c = if lkO T L H o = true then (if nI c = a then nI o else lkAt T L H a r (o + 1) (c + 1)) else lkAt T L H a r (o + 1) c := rfl
    rw [L255_S, st]
    unfold b_255_21 b_255_51
    rw [xg_97_103, h, if_neg (nI_nlt (by omega) (by omega)), xg_97_125, wa_181 (by omega), K o o1 (by omega), b2_i, nI_1, nI_1]
    by_cases g : lkO T L H o = true
    · rw [if_pos g, if_pos g]
      by_cases q : nI c = a
      · rw [if_pos q, if_pos q]
      · rw [if_neg q, if_neg q]
        exact lq_255 R hb h K r (o + 1) (c + 1) n (by omega) (by omega) (by omega)
    · rw [if_neg g, if_neg g]
      exact lq_255 R hb h K r (o + 1) c n (by omega) (by omega) (by omega)
theorem x_255 (P : HWp T L b H) (hW : HWr T L b H s) (K : KNm T L H s) (h96 : ¬ s.1 97 96 = 0) (a0 : 0 ≤ a) : ∃ s', mjF (d + 5) 255 [.ref 97, .int a] (mjW0 s) = some (some (.int (lkAt T L H a H.1 1 0)), mjW0 s') ∧ oWl s s' ∧ KNm T L H s' := by
  have b1 := P.2.1.1
  have b2' := P.2.1.2
  obtain ⟨s', a1, a2, a3, a4⟩ := x_252 (d := d) P hW K
  have k : ∀ o, 1 ≤ o → o ≤ H.1 → s'.1 181 o = b2 (lkO T L H o) := by
    rcases a4 with h | h
    · rw [a3] at h; exact absurd h (by decide)
    · exact h.2.1
  have l := lq_255 (a := a) (mjF (d + 4)) (show H.1 ≤ 1334 by omega) (hW.wl a2).2.1 k H.1 1 0 mjN (by omega) (by omega) (by unfold mjN; omega)
  refine ⟨s', ?_, a2, a4⟩
  rw [e_255]
  unfold f_255 b_255_0
  rw [xg_97_96, if_neg h96, if_pos a0, xV_97, a1, bN_s]
  exact l
theorem L256_S (R : mjR) (n x : Nat) (y u : Int32) (hp : mjH) : L_256_56 R (n + 1) x y u hp = b_256_56 R (L_256_56 R n) x y u hp := rfl
theorem lq_256 (R : mjR) (hb : H.1 ≤ 1334) (W : WRr H Q s) (hQ : WOK H Q) {x : Nat} (hx : x ≤ 4000) : ∀ (n k m : Nat) (e : Nat × Nat × Nat × Nat), k < n → n < m → Q[k]? = some e → L_256_56 R m 97 (nI x) (nI k) (mjW0 s) = some (some (.int (nI (upQ Q x n k))), mjW0 s)
  | n, k, 0, e, hk, hm, he => by omega
  | 0, k, m + 1, e, hk, hm, he => by omega
  | n + 1, k, m + 1, e, hk, hm, he => by
    have ln := hQ.len
    have kl := (List.getElem?_eq_some_iff.mp he).1
    have ds := hQ.dist k k e (Nat.le_refl _) he
    obtain ⟨w1, w2, w3⟩ := W.2.1 k e he
    have st : upQ Q x (n + 1) k = if e.2.2.2 ≤ x then e.1 else upQ Q x n e.2.2.1 := by
      show (match Q[k]? with
        | none => 0
        | some e => if e.2.2.2 ≤ x then e.1 else upQ Q x n e.2.2.1) = _
      rw [he]
    rw [L256_S, st]
    unfold b_256_56
    rw [xg_97_123, wa_180 (by omega), w3]
    by_cases g : e.2.2.2 ≤ x
    · rw [if_pos (nI_le g (by omega)), if_pos g, xg_97_121, wa_178 (by omega), w1]
    · rw [if_neg (nI_ge (by omega) (by omega)), if_neg g, xg_97_122, wa_179 (by omega), w2]
      rcases hQ.2.2 k e he with ⟨_, h⟩ | ⟨h0, h1, p, p1, p2, p3⟩
      · omega
      · rw [if_neg (show ¬ e.2.1 = 0 by omega)]
        exact lq_256 R hb W hQ hx n e.2.2.1 m p (by omega) (by omega) p1
theorem x_256 (P : HWp T L b H) (hW : HWr T L b H s) (K : KNm T L H s) (ho1 : 1 ≤ o) (ho2 : o ≤ H.1) (h246 : ∀ d, mjF (d + 1) 246 [.ref 97, .int (nI o)] (mjW0 s) = some (some (.int 1), mjW0 s)) : ∃ s' v, mjF (d + 5) 256 [.ref 97, .int (nI o), .int a] (mjW0 s) = some (some (.int v), mjW0 s') ∧ oWl s s' ∧ KNm T L H s' ∧ ((v = -1 ∧ (¬ 0 ≤ a ∨ lkO T L H o = false)) ∨ (0 ≤ a ∧ lkO T L H o = true ∧ ∃ (k : Nat) (e : Nat × Nat × Nat × Nat), (walkR T L H ((H.2 o).2.1 0))[k]? = some e ∧ e.1 = o ∧ ((v = -1 ∧ ¬ a ≤ nI e.2.2.2) ∨ ∃ x, a = nI x ∧ x ≤ e.2.2.2 ∧ v = nI (upQ (walkR T L H ((H.2 o).2.1 0)) x (k + 1) k)))) := by
  have b1 := P.2.1.1
  have b2' := P.2.1.2
  have ol := (P.1 o ho1 ho2).2.1 0
  by_cases a0 : 0 ≤ a
  · obtain ⟨s1, a1, a2, a3, a4⟩ := x_252 (d := d) P hW K
    have k1 : s1.1 181 o = b2 (lkO T L H o) := by
      rcases a4 with h | h
      · rw [a3] at h; exact absurd h (by decide)
      · exact h.2.1 o ho1 ho2
    have pre : mjF (d + 5) 256 [.ref 97, .int (nI o), .int a] (mjW0 s) = f_256 (mjF (d + 4)) 97 (nI o) a (mjW0 s) := e_256
    unfold f_256 b_256_0 b_256_12 at pre
    rw [xV_97, h246 (d + 3), bI_s, if_neg (show ¬ ((1 : Int32) = 0) by decide), if_pos a0, xV_97, a1, bN_s, xg_97_125, wa_181 (by omega), k1] at pre
    cases hl : lkO T L H o with
    | false =>
      rw [hl, if_pos (show b2 false = 0 from rfl)] at pre
      exact ⟨s1, -1, pre, a2, a4, Or.inl ⟨rfl, Or.inr rfl⟩⟩
    | true =>
      have hW1 := hW.wl a2
      obtain ⟨s2, c1, c2, c3, c4⟩ := x_254 (d := d + 1) (sh := (H.2 o).2.1 0) P (by omega) hW1
      obtain ⟨v, f1, f2⟩ := x_250 (d := d + 3) (by omega) c3 c4 ho2
      rw [hl, if_neg (show ¬ b2 true = 0 by decide), xV_97, x_253 hW1.1 P.2.1 (P.n1 ho1 ho2) ho1 ho2, bI_s, xV_97, c1, bN_s, xV_97, f1, bI_s] at pre
      obtain ⟨q1, q2, q3⟩ := oWr_181 c2
      have K2 : KNm T L H s2 := a4.gen ⟨q3 126 (by decide), q3 127 (by decide)⟩ q1
      have lw : inW (walkR T L H ((H.2 o).2.1 0)) o := by
        unfold lkO at hl
        rw [Bool.and_eq_true] at hl
        exact inWb_iff.mp hl.2
      rcases f2 with ⟨_, f4⟩ | ⟨k, e, f3, f4, f5⟩
      · exact absurd lw f4
      · have ln := c4.len
        have kl := (List.getElem?_eq_some_iff.mp f3).1
        have ds := c4.dist k k e (Nat.le_refl _) f3
        rw [f5, xg_97_123, wa_180 (by omega), (c3.2.1 k e f3).2.2] at pre
        by_cases g : a ≤ nI e.2.2.2
        · obtain ⟨x, x31, ex⟩ := nI_of (x := a) (fun y => Int32.not_le.mpr y a0)
          have xl : x ≤ e.2.2.2 := by
            rw [ex] at g
            exact (nI_leI (by omega) (by omega)).mp g
          have l := lq_256 (mjF (d + 4)) (show H.1 ≤ 1334 by omega) c3 c4 (x := x) (by omega) (k + 1) k mjN e (by omega) (by unfold mjN; omega) f3
          refine ⟨s2, _, ?_, offG.tr a2 c2.l, K2, Or.inr ⟨a0, rfl, k, e, f3, f4, Or.inr ⟨x, ex, xl, rfl⟩⟩⟩
          rw [pre, if_pos g, ex]
          exact l
        · refine ⟨s2, -1, ?_, offG.tr a2 c2.l, K2, Or.inr ⟨a0, rfl, k, e, f3, f4, Or.inl ⟨rfl, g⟩⟩⟩
          rw [pre, if_neg g]
  · refine ⟨s, -1, ?_, offG.rf, K, Or.inl ⟨rfl, Or.inl a0⟩⟩
    rw [e_256]
    unfold f_256 b_256_0 b_256_12
    rw [xV_97, h246 (d + 3), bI_s, if_neg (show ¬ ((1 : Int32) = 0) by decide), if_neg a0]
end MJB92
