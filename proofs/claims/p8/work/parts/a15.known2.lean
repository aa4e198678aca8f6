/-! ===== fillKnown ===== -/
def knT (T : TT) (L : List CD) (c a b : Nat) : Bool := clo (kn0 (nmL L c) (inL L c) (ipT T L c)) 7 a b
def knF (T : TT) (L : List CD) (c a b : Nat) : Bool := if c < L.length then knT T L c a b else false
section MJA15
variable {T : TT} {d N q c t n e k u v : Nat} {s s' : mjSt3} {L : List CD}
theorem L115_S (R : mjR) (n a : Nat) (b : Int32) (hp : mjH) : L_115_2 R (n + 1) a b hp = b_115_2 R (L_115_2 R n) a b hp := rfl
theorem lq_115 (hn : HN T N L) (hq : isP q) : ∀ (r c m : Nat) (s : mjSt3), c + r = L.length → r < m → s.1 q 0 = nI L.length → pnm q s (nmL L) → INP q s (inL L) (ipT T L) → (∀ b, b < c → KNr q b s (knT T L b)) → (∀ j, 7 * c ≤ j → j < 112 → s.1 (q + 11) j = 0) → ∃ s', L_115_2 (mjF (d + 2)) m q (nI c) (mjW0 s) = some (none, mjW0 s') ∧ oRow (q + 11) s s' ∧ (∀ b, b < L.length → KNr q b s' (knT T L b)) ∧ (∀ j, 7 * L.length ≤ j → j < 112 → s'.1 (q + 11) j = 0) ∧ s'.1 58 = s.1 58
  | 0, c, m + 1, s, e, _, h0, hm, I, w, w' => by
    have h16 := hn.1
    refine ⟨s, ?_, offG.rf, fun b hb => w b (by omega), fun j h1 h2 => w' j (by omega) h2, rfl⟩
    rw [L115_S]
    unfold b_115_2
    rw [yg_0 hq, h0, if_pos (nI_le (by omega) (by omega))]
  | r + 1, c, m + 1, s, e, hr, h0, hm, I, w, w' => by
    have h16 := hn.1
    have hq' : q = 2 ∨ q = 30 := hq
    have hc : c < L.length := by omega
    have k0 : KNr q c s (fun a b => decide (a < 0) && (decide (a = b) || decide (b = 5))) := fun a ha => ⟨0, by omega, w' _ (by omega) (by omega), fun b hb => by
      have : decide (a < 0) = false := decide_eq_false (by omega)
      dsimp only
      rw [this, Bool.false_and, Nat.zero_testBit]⟩
    obtain ⟨z, a1, a2, a3⟩ := lq_116a (d := d) hq (c := c) (by omega) 7 0 mjN s (by omega) (by have := mjN_v; omega) hm I k0
    obtain ⟨y, b1, b2', b3⟩ := lq_118 (d := d) hq (c := c) (by omega) 7 0 mjN z (by omega) (by have := mjN_v; omega) a2
    have o2 : oKn q c s y := a3.tr b3
    have orow : oRow (q + 11) s y := offG.mono o2 (fun x y h => Or.inr h.1) (fun _ _ h => h.elim)
    obtain ⟨s', c1, c2, c3, c4, c5⟩ := lq_115 hn hq r (c + 1) m y (by omega) (by omega) (by rw [o2.r (by omega)]; exact h0) (by unfold pnm; rw [o2.r (by omega)]; exact hm) (by unfold INP; rw [o2.r (by omega), o2.r (by omega)]; exact I) (fun b hb => by
      by_cases eb : b = c
      · rw [eb]; exact b2'
      · intro a ha
        obtain ⟨v, v1, v2, v3⟩ := w b (by omega) a ha
        exact ⟨v, v1, (o2.1 (q + 11) (7 * b + a) (by omega)).trans v2, v3⟩) (fun j h1 h2 => by rw [o2.1 (q + 11) j (by omega)]; exact w' j (by omega) h2)
    refine ⟨s', ?_, orow.tr c2, c3, c4, c5.trans (o2.r (by omega))⟩
    have e116 : mjF (d + 2) 116 [.ref q, .int (nI c)] (mjW0 s) = some (none, mjW0 z) := by
      rw [e_116]
      unfold f_116 b_116_0
      exact a1
    have e118 : mjF (d + 2) 118 [.ref q, .int (nI c)] (mjW0 z) = some (none, mjW0 y) := by
      rw [e_118]
      unfold f_118 b_118_0
      exact b1
    rw [L115_S]
    unfold b_115_2
    rw [yg_0 hq, h0, if_neg (nI_ge (by omega) (by omega)), yV hq, e116, bN_s, yV hq, e118, bN_s, nI_1]
    exact c1
/-- fillKnown -/
theorem x_115 (hn : HN T N L) (hq : isP q) (h0 : s.1 q 0 = nI L.length) (hm : pnm q s (nmL L)) (I : INP q s (inL L) (ipT T L)) (w : ∀ j, j < 112 → s.1 (q + 11) j = 0) : ∃ s', mjF (d + 3) 115 [.ref q] (mjW0 s) = some (none, mjW0 s') ∧ oRow (q + 11) s s' ∧ KNW q s' (knF T L) ∧ s'.1 58 = s.1 58 := by
  have h16 := hn.1
  obtain ⟨s', a1, a2, a3, a4, a5⟩ := lq_115 (d := d) hn hq L.length 0 mjN s (by omega) (by have := mjN_v; omega) h0 hm I (fun b hb => absurd hb (by omega)) (fun j _ hj => w j hj)
  refine ⟨s', ?_, a2, fun c hc a ha => ?_, a5⟩
  · rw [e_115]
    unfold f_115 b_115_0
    exact a1
  · by_cases hl : c < L.length
    · obtain ⟨v, v1, v2, v3⟩ := a3 c hl a ha
      exact ⟨v, v1, v2, fun b hb => by rw [v3 b hb]; unfold knF; rw [if_pos hl]⟩
    · exact ⟨0, by omega, a4 _ (by omega) (by omega), fun b hb => by unfold knF; rw [if_neg hl, Nat.zero_testBit]⟩
end MJA15
/-! ===== all MEMBERS in a row ===== -/
def flat (c : Nat) : List CD → List (Nat × MD)
  | [] => []
  | D :: L => D.2.map (fun md => (c, md)) ++ flat (c + 1) L
def FL (L : List CD) : List (Nat × MD) := flat 0 L
theorem flat_at : ∀ (L : List CD) (b c k : Nat) (D : CD) (md : MD), L[c]? = some D → D.2[k]? = some md → (flat b L)[nMem (L.take c) + k]? = some (b + c, md)
  | [], b, c, k, D, md, h, _ => by cases h
  | E :: L, b, 0, k, D, md, h, hk => by
    cases h
    have hl := (List.getElem?_eq_some_iff.mp hk).1
    show (E.2.map (fun md => (b, md)) ++ flat (b + 1) L)[0 + k]? = _
    rw [Nat.zero_add, List.getElem?_append_left (by rw [List.length_map]; exact hl), List.getElem?_map, hk]
    rfl
  | E :: L, b, c + 1, k, D, md, h, hk => by
    have e : nMem ((E :: L).take (c + 1)) = E.2.length + nMem (L.take c) := by
      unfold nMem
      simp
    show (E.2.map (fun md => (b, md)) ++ flat (b + 1) L)[nMem ((E :: L).take (c + 1)) + k]? = _
    rw [e, List.getElem?_append_right (by rw [List.length_map]; omega), List.length_map, show E.2.length + nMem (L.take c) + k - E.2.length = nMem (L.take c) + k by omega, flat_at L (b + 1) c k D md h hk]
    congr 2
    omega
theorem flat_len : ∀ (L : List CD) (b : Nat), (flat b L).length = nMem L
  | [], _ => rfl
  | E :: L, b => by
    show (E.2.map (fun md => (b, md)) ++ flat (b + 1) L).length = _
    rw [List.length_append, List.length_map, flat_len L (b + 1)]
    unfold nMem
    simp
theorem flat_ex : ∀ (L : List CD) (b m : Nat) (c : Nat) (md : MD), (flat b L)[m]? = some (c, md) → ∃ D k, b ≤ c ∧ L[c - b]? = some D ∧ D.2[k]? = some md ∧ m = nMem (L.take (c - b)) + k
  | [], b, m, c, md, h => by cases h
  | E :: L, b, m, c, md, h => by
    by_cases g : m < E.2.length
    · have h' : (E.2.map (fun md => (b, md)) ++ flat (b + 1) L)[m]? = some (c, md) := h
      rw [List.getElem?_append_left (by rw [List.length_map]; exact g), List.getElem?_map] at h'
      cases hk : E.2[m]? with
      | none => rw [hk] at h'; cases h'
      | some x =>
        rw [hk] at h'
        cases h'
        exact ⟨E, m, Nat.le_refl _, by rw [Nat.sub_self]; rfl, hk, by rw [Nat.sub_self]; show m = 0 + m; omega⟩
    · have h' : (E.2.map (fun md => (b, md)) ++ flat (b + 1) L)[m]? = some (c, md) := h
      rw [List.getElem?_append_right (by rw [List.length_map]; omega), List.length_map] at h'
      obtain ⟨D, k, a1, a2, a3, a4⟩ := flat_ex L (b + 1) _ c md h'
      refine ⟨D, k, by omega, ?_, a3, ?_⟩
      · rw [show c - b = (c - (b + 1)) + 1 by omega]; exact a2
      · rw [show c - b = (c - (b + 1)) + 1 by omega]
        have e : nMem ((E :: L).take (c - (b + 1) + 1)) = E.2.length + nMem (L.take (c - (b + 1))) := by
          unfold nMem
          simp
        rw [e]
        omega
/-- MEMBER m: its CLASS, what was read of it -/
def hmM (L : List CD) (m : Nat) : Nat := match (FL L)[m]? with
  | some x => x.1
  | none => 0
def mdM (L : List CD) (m : Nat) : MD := match (FL L)[m]? with
  | some x => x.2
  | none => (0, 0, false, [], 0, 0, 0, 0)
theorem FL_at {L : List CD} {c k : Nat} {D : CD} {md : MD} (h : L[c]? = some D) (hk : D.2[k]? = some md) : hmM L (nMem (L.take c) + k) = c ∧ mdM L (nMem (L.take c) + k) = md := by
  have := flat_at L 0 c k D md h hk
  rw [Nat.zero_add] at this
  unfold hmM mdM FL
  rw [this]
  exact ⟨rfl, rfl⟩
theorem FL_ex {L : List CD} {m : Nat} (h : m < nMem L) : ∃ c D k, L[c]? = some D ∧ D.2[k]? = some (mdM L m) ∧ m = nMem (L.take c) + k ∧ hmM L m = c := by
  have hl : m < (FL L).length := by unfold FL; rw [flat_len]; exact h
  obtain ⟨⟨c, md⟩, hx⟩ : ∃ x, (FL L)[m]? = some x := ⟨_, List.getElem?_eq_getElem hl⟩
  obtain ⟨D, k, a1, a2, a3, a4⟩ := flat_ex L 0 m c md hx
  rw [Nat.sub_zero] at a2 a4
  refine ⟨c, D, k, a2, ?_, a4, ?_⟩
  · unfold mdM; rw [hx]; exact a3
  · unfold hmM; rw [hx]
