/-! ===== what is come to is closed; HOPS; past ===== -/
section MJB95
variable {T : TT} {d b q o fo fi dd sh k i n m c x : Nat} {L : List CD} {H : HEAP} {Q : WQ} {s s' : mjSt3} {e : Nat × Nat × Nat × Nat} {a v : Int32}
theorem inW.app {R : WQ} (h : inW Q x) : inW (Q ++ R) x := by
  obtain ⟨y, y1, y2⟩ := h
  exact ⟨y, List.mem_append_left _ y1, y2⟩
theorem hop_pre : ∃ R, wHop T L H sh fo fi dd i Q = Q ++ R := by
  unfold wHop
  by_cases g : hopN T L H fo i = 0 ∨ hopN T L H fo i = sh
  · rw [if_pos g]; exact ⟨[], (List.append_nil Q).symm⟩
  · rw [if_neg g]; exact come_pre
theorem slots_pre : ∀ (r i : Nat) (Q : WQ), ∃ R, wSlots T L H sh fo fi dd r i Q = Q ++ R
  | 0, i, Q => ⟨[], (List.append_nil Q).symm⟩
  | r + 1, i, Q => by
    obtain ⟨R1, e1⟩ := hop_pre (T := T) (L := L) (H := H) (sh := sh) (fo := fo) (fi := fi) (dd := dd) (i := i) (Q := Q)
    obtain ⟨R2, e2⟩ := slots_pre r (i + 1) (wHop T L H sh fo fi dd i Q)
    refine ⟨R1 ++ R2, ?_⟩
    show wSlots T L H sh fo fi dd r (i + 1) (wHop T L H sh fo fi dd i Q) = _
    rw [e2, e1, List.append_assoc]
/-- every HOP of an OBJECT -/
theorem slots_in : ∀ (r i : Nat) (Q : WQ) (j : Nat), i ≤ j → j < i + r → hopN T L H fo j = 0 ∨ hopN T L H fo j = sh ∨ inW (wSlots T L H sh fo fi dd r i Q) (hopN T L H fo j)
  | 0, i, Q, j, h1, h2 => by omega
  | r + 1, i, Q, j, h1, h2 => by
    show _ ∨ _ ∨ inW (wSlots T L H sh fo fi dd r (i + 1) (wHop T L H sh fo fi dd i Q)) (hopN T L H fo j)
    by_cases e : j = i
    · rw [e]
      by_cases g : hopN T L H fo i = 0
      · exact Or.inl g
      · by_cases g2 : hopN T L H fo i = sh
        · exact Or.inr (Or.inl g2)
        · refine Or.inr (Or.inr ?_)
          obtain ⟨R, eR⟩ := slots_pre (T := T) (L := L) (H := H) (sh := sh) (fo := fo) (fi := fi) (dd := dd) r (i + 1) (wHop T L H sh fo fi dd i Q)
          rw [eR]
          refine inW.app ?_
          unfold wHop
          rw [if_neg (fun y => y.elim g g2)]
          exact come_in
    · exact slots_in r (i + 1) _ j (by omega) (by omega)
def clsQ (T : TT) (L : List CD) (H : HEAP) (sh : Nat) (Q : WQ) (k : Nat) : Prop := ∀ (j : Nat) (e : Nat × Nat × Nat × Nat), j < k → Q[j]? = some e → ∀ i, i < fldT T L (H.2 e.1).1 → hopN T L H e.1 i = 0 ∨ hopN T L H e.1 i = sh ∨ inW Q (hopN T L H e.1 i)
theorem cls_go (hsh : sh ≤ H.1) (P : HWp T L b H) : ∀ (n k : Nat) (Q : WQ), n + k = H.1 + 1 → WOK H Q → clsQ T L H sh Q k → (∀ e, e ∈ wGo T L H sh n k Q → ∀ i, i < fldT T L (H.2 e.1).1 → hopN T L H e.1 i = 0 ∨ hopN T L H e.1 i = sh ∨ inW (wGo T L H sh n k Q) (hopN T L H e.1 i)) ∧ WOK H (wGo T L H sh n k Q) ∧ ∃ R, wGo T L H sh n k Q = Q ++ R
  | 0, k, Q, en, hQ, hc => by
    refine ⟨fun e he => ?_, hQ, [], (List.append_nil Q).symm⟩
    obtain ⟨j, hj⟩ := List.getElem?_of_mem (show e ∈ Q from he)
    have jl := (List.getElem?_eq_some_iff.mp hj).1
    have ln := hQ.len
    exact hc j e (by omega) hj
  | n + 1, k, Q, en, hQ, hc => by
    have ln := hQ.len
    cases he : Q[k]? with
    | none =>
      have kl := List.getElem?_eq_none_iff.mp he
      have ew : wGo T L H sh (n + 1) k Q = Q := by
        show (match Q[k]? with
          | none => Q
          | some e => wGo T L H sh n (k + 1) (wSlots T L H sh e.1 k e.2.2.2 (fldT T L (H.2 e.1).1) 0 Q)) = Q
        rw [he]
      rw [ew]
      refine ⟨fun e he => ?_, hQ, [], (List.append_nil Q).symm⟩
      obtain ⟨j, hj⟩ := List.getElem?_of_mem he
      have jl := (List.getElem?_eq_some_iff.mp hj).1
      exact hc j e (by omega) hj
    | some e =>
      have ew : wGo T L H sh (n + 1) k Q = wGo T L H sh n (k + 1) (wSlots T L H sh e.1 k e.2.2.2 (fldT T L (H.2 e.1).1) 0 Q) := by
        show (match Q[k]? with
          | none => Q
          | some e => wGo T L H sh n (k + 1) (wSlots T L H sh e.1 k e.2.2.2 (fldT T L (H.2 e.1).1) 0 Q)) = _
        rw [he]
      rw [ew]
      obtain ⟨R, eR⟩ := slots_pre (T := T) (L := L) (H := H) (sh := sh) (fo := e.1) (fi := k) (dd := e.2.2.2) (fldT T L (H.2 e.1).1) 0 Q
      have hok : ∀ (r i : Nat) (Q : WQ), Q[k]? = some e → WOK H Q → WOK H (wSlots T L H sh e.1 k e.2.2.2 r i Q) := by
        intro r
        induction r with
        | zero => exact fun i Q _ h => h
        | succ r ih =>
          intro i Q hk h
          show WOK H (wSlots T L H sh e.1 k e.2.2.2 r (i + 1) (wHop T L H sh e.1 k e.2.2.2 i Q))
          obtain ⟨e1, e2⟩ := h.2.1 e (List.mem_of_getElem? hk)
          have b1 := P.2.1.1
          have b2' := P.2.1.2
          have hh := (hop_ok (T := T) (L := L) (H := H) (o := e.1) (i := i) P.1 (by omega) e1 e2).1
          obtain ⟨R, eR⟩ := hop_pre (T := T) (L := L) (H := H) (sh := sh) (fo := e.1) (fi := k) (dd := e.2.2.2) (i := i) (Q := Q)
          refine ih (i + 1) _ (by rw [eR]; exact pre_at hk) ?_
          unfold wHop
          by_cases g : hopN T L H e.1 i = 0 ∨ hopN T L H e.1 i = sh
          · rw [if_pos g]; exact h
          · rw [if_neg g]
            exact h.come (by
              by_cases z : hopN T L H e.1 i = 0
              · exact absurd (Or.inl z) g
              · omega) hh (Or.inr ⟨e1, e, hk, rfl, rfl⟩)
      obtain ⟨c1, c2, R2, c3⟩ := cls_go hsh P n (k + 1) (wSlots T L H sh e.1 k e.2.2.2 (fldT T L (H.2 e.1).1) 0 Q) (by omega) (hok _ _ _ he hQ) (fun j y hj hy i hi => by
        by_cases q : j = k
        · rw [q, eR, pre_at he] at hy
          have ey := Option.some.inj hy
          rw [← ey] at hi ⊢
          exact slots_in _ _ _ i (by omega) (by omega)
        · have hy' : Q[j]? = some y := by
            rw [eR, List.getElem?_append_left (by have := (List.getElem?_eq_some_iff.mp he).1; omega)] at hy
            exact hy
          rcases hc j y (by omega) hy' i hi with h | h | h
          · exact Or.inl h
          · exact Or.inr (Or.inl h)
          · exact Or.inr (Or.inr (by rw [eR]; exact h.app)))
      exact ⟨c1, c2, R ++ R2, by rw [c3, eR, List.append_assoc]⟩
theorem roots_ok (P : HWp T L b H) : ∀ (r o : Nat) (Q : WQ), o + r = H.1 + 1 → 1 ≤ o → WOK H Q → WOK H (wRoots H sh r o Q)
  | 0, o, Q, _, _, h => h
  | r + 1, o, Q, eo, o1, h => by
    show WOK H (wRoots H sh r (o + 1) (wRoot H sh o Q))
    refine roots_ok P r (o + 1) _ (by omega) (by omega) ?_
    unfold wRoot
    by_cases g : (H.2 o).2.1 0 = 0 ∧ ¬ o = sh
    · rw [if_pos g]; exact h.come o1 (by omega) (Or.inl ⟨rfl, rfl⟩)
    · rw [if_neg g]; exact h
/-- from all ROOTS but one: closed -/
theorem walkR_cl (P : HWp T L b H) (hsh : sh ≤ H.1) (he : e ∈ walkR T L H sh) (hi : i < fldT T L (H.2 e.1).1) : hopN T L H e.1 i = 0 ∨ hopN T L H e.1 i = sh ∨ inW (walkR T L H sh) (hopN T L H e.1 i) := (cls_go hsh P (H.1 + 1) 0 (wRoots H sh H.1 1 []) (by omega) (roots_ok P H.1 1 [] (by omega) (by omega) WOK.nil) (fun j y hj _ => absurd hj (Nat.not_lt_zero j))).1 e he i hi
theorem L191_S (R : mjR) (n a : Nat) (x y : Int32) (hp : mjH) : L_191_9 R (n + 1) a x y hp = b_191_9 R (L_191_9 R n) a x y hp := rfl
theorem lq_191 (R : mjR) (hb : H.1 ≤ 1334) (h79 : s.1 79 2 = nI H.1) (W : WCr H Q s) (hQ : WOK H Q) : ∀ (n k m h : Nat) (e : Nat × Nat × Nat × Nat), k ≤ n → n < m → h + k ≤ H.1 → Q[k]? = some e → L_191_9 R m 91 (nI h) (nI e.2.1) (mjW0 s) = some (some (.int (nI (h + e.2.2.2))), mjW0 s)
  | n, k, 0, h, e, hk, hm, hh, he => by omega
  | n, k, m + 1, h, e, hk, hm, hh, he => by
    have ln := hQ.len
    have kl := (List.getElem?_eq_some_iff.mp he).1
    rw [L191_S]
    unfold b_191_9 b_191_37
    rcases hQ.2.2 k e he with ⟨h1, h2⟩ | ⟨h0, h1, p, p1, p2, p3⟩
    · rw [h1, if_pos (show nI 0 ≤ (0 : Int32) by decide), h2]
      rfl
    · have pm := List.mem_of_getElem? p1
      have pr := hQ.2.1 p pm
      cases n with
      | zero => omega
      | succ n =>
        have ih := lq_191 R hb h79 W hQ n e.2.2.1 m (h + 1) p (by omega) (by omega) (by omega) p1
        rw [if_neg (nI_nle (by omega) (by omega)), xg_91_0, xg_79_2, h79, if_neg (nI_nlt (by omega) (by omega)), xg_91_4, wa_93 (by omega), ← p2, W.2.2.1 p pm, nI_1, ih, p3, show h + 1 + p.2.2.2 = h + (p.2.2.2 + 1) by omega]
/-- hopsTo -/
theorem x_191 (hb : H.1 ≤ 1334) (h79 : s.1 79 2 = nI H.1) (W : WCr H Q s) (hQ : WOK H Q) (he : Q[k]? = some e) : mjF (d + 1) 191 [.ref 91, .int (nI e.1)] (mjW0 s) = some (some (.int (nI e.2.2.2)), mjW0 s) := by
  have ln := hQ.len
  have kl := (List.getElem?_eq_some_iff.mp he).1
  have em := List.mem_of_getElem? he
  have er := hQ.2.1 e em
  have l := lq_191 (mjF d) hb h79 W hQ k k mjN 0 e (Nat.le_refl _) (by unfold mjN; omega) (by omega) he
  rw [Nat.zero_add] at l
  rw [e_191]
  unfold f_191 b_191_0
  rw [xg_91_4, wa_93 (by omega), W.2.2.1 e em]
  exact l
theorem x_191n (hb : H.1 ≤ 1334) (W : WCr H Q s) (o2 : o ≤ H.1) (hn : ¬ inW Q o) : mjF (d + 1) 191 [.ref 91, .int (nI o)] (mjW0 s) = some (some (.int 0), mjW0 s) := by
  rw [e_191]
  unfold f_191 b_191_0
  rw [xg_91_4, wa_93 (by omega), W.2.2.2 o o2 hn, show mjN = 99999999 + 1 from rfl, L191_S]
  unfold b_191_9 b_191_37
  rw [if_pos (show (-1 : Int32) ≤ 0 by decide)]
/-- hopsBetween -/
theorem x_185 (P : HWp T L b H) (hW : HWc T L q H s) (o1 : 1 ≤ o) (o2 : o ≤ H.1) (hc2 : c ≤ H.1) : ∃ s' v, mjF (d + 5) 185 [.ref 91, .int (nI o), .int (nI c)] (mjW0 s) = some (some (.int v), mjW0 s') ∧ oWs s s' ∧ ((v = -1 ∧ ¬ inW (walkO T L H o) c) ∨ ∃ (k : Nat) (e : Nat × Nat × Nat × Nat), (walkO T L H o)[k]? = some e ∧ e.1 = c ∧ v = nI e.2.2.2) := by
  have b1 := P.2.1.1
  have b2' := P.2.1.2
  obtain ⟨s1, a1, a2, a3, a4⟩ := x_186O (d := d) P o1 o2 hW
  have pre : mjF (d + 5) 185 [.ref 91, .int (nI o), .int (nI c)] (mjW0 s) = (if s1.1 93 c = -1 then some (some (.int (-1)), mjW0 s1) else rV (mjW0 s1) 91 10 (bI (mjF (d + 4) 191 [.ref 91, .int (nI c)] (mjW0 s1)) (fun v4 hp5 => some (some (.int v4), hp5)))) := by
    rw [e_185]
    unfold f_185 b_185_0
    rw [xV_91, a1, bN_s, xg_91_4, wa_93 (by omega)]
  by_cases g : inW (walkO T L H o) c
  · obtain ⟨y, y1, y2⟩ := g
    obtain ⟨k, hk⟩ := List.getElem?_of_mem y1
    have v93 := a3.2.2.1 y y1
    rw [y2] at v93
    have x3 : y.2.1 < 2 ^ 31 := by
      rcases a4.2.2 k y hk with h | ⟨_, _, p, p1, p2, _⟩
      · omega
      · have := a4.2.1 p (List.mem_of_getElem? p1)
        omega
    have x191 := x_191 (d := d + 3) (by omega) (hW.ws a2.toC).2.1 a3 a4 hk
    rw [y2] at x191
    refine ⟨s1, nI y.2.2.2, ?_, a2, Or.inr ⟨k, y, hk, y2, rfl⟩⟩
    rw [pre, v93, if_neg (nI_m1 x3), xV_91, x191, bI_s]
  · refine ⟨s1, -1, ?_, a2, Or.inl ⟨rfl, g⟩⟩
    rw [pre, a3.2.2.2 c hc2 g, if_pos rfl]
theorem L197_S (R : mjR) (n a : Nat) (x y u : Int32) (hp : mjH) : L_197_20 R (n + 1) a x y u hp = b_197_20 R (L_197_20 R n) a x y u hp := rfl
/-- isLeak answers -/
theorem lq_197 (R : mjR) (hb : H.1 ≤ 1334) (h79 : s.1 79 2 = nI H.1) (N9 : ∀ o, o ≤ H.1 → s.1 94 o = -1 ∨ ∃ a, a ≤ H.1 ∧ s.1 94 o = nI a) : ∀ (r k m : Nat) (w x : Int32), k + r = H.1 + 1 → r < m → (x = -1 ∨ ∃ a, a ≤ H.1 ∧ x = nI a) → ∃ v : Bool, L_197_20 R m 91 w x (nI k) (mjW0 s) = some (some (.int (b2 v)), mjW0 s)
  | r, k, 0, w, x, e, hm, hx => by omega
  | r, k, m + 1, w, x, e, hm, hx => by
    have fin : ∃ v : Bool, b_197_54 R w x (mjW0 s) = some (some (.int (b2 v)), mjW0 s) := by
      unfold b_197_54 b_197_66
      by_cases g1 : w = 0
      · exact ⟨false, by rw [if_pos g1]; rfl⟩
      · rw [if_neg g1]
        by_cases g2 : x = 0
        · exact ⟨true, by rw [if_pos g2]; rfl⟩
        · exact ⟨false, by rw [if_neg g2]; rfl⟩
    rw [L197_S]
    unfold b_197_20
    rw [xg_91_0, xg_79_2, h79]
    by_cases g1 : nI H.1 < nI k
    · rw [if_pos g1]; exact fin
    · rw [if_neg g1]
      by_cases g2 : x ≤ 0
      · rw [if_pos g2]; exact fin
      · rw [if_neg g2]
        by_cases g3 : x = w
        · rw [if_pos g3]; exact fin
        · rcases hx with hx | ⟨y, y1, y2⟩
          · rw [hx] at g2
            exact absurd (show (-1 : Int32) ≤ 0 by decide) g2
          · cases r with
            | zero => exact absurd (nI_lt (show H.1 < k by omega) (by omega)) g1
            | succ r =>
              rw [if_neg g3, xg_91_6, y2, wa_94 (by omega), nI_1]
              exact lq_197 R hb h79 N9 r (k + 1) m w _ (by omega) (by omega) (N9 y y1)
theorem x_197 (P : HWp T L b H) (hW : HWc T L q H s) (N9 : ∀ o, o ≤ H.1 → s.1 94 o = -1 ∨ ∃ a, a ≤ H.1 ∧ s.1 94 o = nI a) (o1 : 1 ≤ o) (o2 : o ≤ H.1) : ∃ v : Bool, mjF (d + 2) 197 [.ref 91, .int (nI o)] (mjW0 s) = some (some (.int (b2 v)), mjW0 s) := by
  have b1 := P.2.1.1
  have b2' := P.2.1.2
  have x49 : mjF (d + 1) 49 [.ref 79, .int (nI o), .int 0] (mjW0 s) = some (some (.int (nI ((H.2 o).2.1 0))), mjW0 s) := x_49 (d := d) (i := 0) hW.1 P.2.1 o1 o2 (P.n1 o1 o2)
  obtain ⟨v, l⟩ := lq_197 (mjF (d + 1)) (show H.1 ≤ 1334 by omega) hW.2.1 N9 (H.1 + 1) 0 mjN (nI ((H.2 o).2.1 0)) (s.1 94 o) (by omega) (by unfold mjN; omega) (N9 o o2)
  refine ⟨v, ?_⟩
  rw [e_197]
  unfold f_197 b_197_0
  rw [xg_91_0, xV_79, x49, bI_s, xg_91_6, wa_94 (by omega)]
  exact l
theorem L200_S (R : mjR) (n a : Nat) (x y u : Int32) (hp : mjH) : L_200_51 R (n + 1) a x y u hp = b_200_51 R (L_200_51 R n) a x y u hp := rfl
theorem lq_200 (R : mjR) (hb : H.1 ≤ 1334) (W : WCr H Q s) (hQ : WOK H Q) (hx : x ≤ 4000) : ∀ (n k m : Nat) (e : Nat × Nat × Nat × Nat), k < n → n < m → Q[k]? = some e → L_200_51 R m 91 (nI x) (nI e.1) (nI e.2.2.2) (mjW0 s) = some (some (.int (nI (upQ Q x n k))), mjW0 s)
  | n, k, 0, e, hk, hm, he => by omega
  | 0, k, m + 1, e, hk, hm, he => by omega
  | n + 1, k, m + 1, e, hk, hm, he => by
    have ln := hQ.len
    have kl := (List.getElem?_eq_some_iff.mp he).1
    have ds := hQ.dist k k e (Nat.le_refl _) he
    have em := List.mem_of_getElem? he
    have er := hQ.2.1 e em
    rw [L200_S, upQ_at he]
    unfold b_200_51
    by_cases g : e.2.2.2 ≤ x
    · rw [if_pos (nI_le g (by omega)), if_pos g]
    · rw [if_neg (nI_ge (by omega) (by omega)), if_neg g, xg_91_4, wa_93 (by omega), W.2.2.1 e em]
      rcases hQ.2.2 k e he with ⟨_, h⟩ | ⟨h0, h1, p, p1, p2, p3⟩
      · omega
      · rw [← p2, p3, nI_m]
        exact lq_200 R hb W hQ hx n e.2.2.1 m p (by omega) (by omega) p1
end MJB95
