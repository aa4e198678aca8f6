/-! ===== the Coder: one METHOD, from its PARAMS to behind its code ===== -/
section MJA50
variable {E : EV} {D N q c c5 m n i k cs bt td kq fu : Nat} {s s5 s' s0 : mjSt3} {j : JS} {z : PB}
theorem x_4s {k23 : Nat → Int32 → mjH → mjU} {oo : Nat} (hoo : oo ≤ 12) (hD : 136 ≤ D + 1) (C : CB E.1 N q E.2.1 E.2.2.1 s) (f : fne s c) (sz : s.1 (q + 24) 3 = nI cs) (hm : m ≤ 384) (h18 : s.1 (q + 18) m = 1) (e5 : mjF (D + 1) 5 [.ref 75, .int (nI m)] (mjW0 s) = some (none, mjW0 s5)) (V : VSr E.1 N E.2.1 j.2.2.1 j.2.2.2.1 s5) (o5 : oSt q s s5) (f5 : fne s5 c5) (hc5 : c5 ≤ N) (r5 : ∀ h, ¬ h = 58 → ¬ h = 75 → ¬ h = 77 → ¬ h = 78 → s5.1 h = s.1 h) (h16 : s.1 (q + 16) m = oI E.2.2.2.2.1) (hh : ∀ c, E.2.2.2.2.1 = some c → c < E.2.1.length) (h17 : s.1 (q + 17) m = tyI E.2.2.2.2.2.1) (hr : vT E.2.1 E.2.2.2.2.2.1) (h70 : s.1 70 m = nI bt) (hbt : bt ≤ N) (hVD : VD j) (hz : prS E.1 (N + 1) fu 0 oo bt j.2.2.2.1 kq i = .inr z) (hK : KT E.2.2.2.1 kq z.2.2.1) (hA : AG s z.2.2.2.2) (hP : PS E i cs z.2.2.2.1 j) (hb : cs + (z.1 - bt) ≤ 3090) (hi0 : i + z.2.2.2.1.length ≤ 100000) (hkq : kq + z.2.2.1.length ≤ 100000) : (∃ s' j' l, b_4_23 (mjF (D + 1)) k23 75 (nI m) (mjW0 s) = k23 75 (nI (m + 1)) (mjW0 s') ∧ jrun E z.2.2.2.1 j = some (j', l) ∧ CB E.1 N q E.2.1 E.2.2.1 s' ∧ fne s' z.1 ∧ z.1 ≤ N ∧ s'.1 (q + 24) 3 = nI (cs + l.length + 2) ∧ CL q s' cs (l ++ [(0, 0, -1), (9, 0, -1)]) ∧ CP q cs s s' ∧ s'.1 (q + 23) = upd (s.1 (q + 23)) m (nI cs) ∧ oC q s s' ∧ l.length + bt + 2 ≤ z.1) ∨ (∃ s', b_4_23 (mjF (D + 1)) k23 75 (nI m) (mjW0 s) = k23 75 (nI (m + 1)) (mjW0 s') ∧ jrun E z.2.2.2.1 j = none ∧ BC E.1 N q E.2.1 E.2.2.1 s' ∧ oC q s s') := by
  have hq' : q = 2 ∨ q = 30 := C.pq
  have C5 := C.oC o5.C
  obtain ⟨s6, b1, b2', b3, b4, b5, b6, b7, b8⟩ := x_begin (d := D) (m := m) (bt := bt) C5 V f5 hc5 (cs := cs) (by rw [r5 _ (by omega) (by omega) (by omega) (by omega)]; exact sz) (by omega) (by rw [r5 _ (by omega) (by omega) (by omega) (by omega)]; exact h16) hh (by rw [r5 _ (by omega) (by omega) (by omega) (by omega)]; exact h17) hr (by rw [r5 _ (by omega) (by omega) (by omega) (by omega)]; exact h70) hbt
  have row : ∀ h, ¬ h = 58 → ¬ h = 75 → ¬ h = 77 → ¬ h = 78 → ¬ h = q + 23 → s6.1 h = s.1 h := fun h a1 a2 a3 a4 a5 => by rw [b6 h a1 a2 a5, r5 h a1 a2 a3 a4]
  have o6 : oC q s s6 := o5.C.tr b5
  obtain ⟨U, hU⟩ : ∃ U, U = b_4_23 (mjF (D + 1)) k23 75 (nI m) (mjW0 s) := ⟨_, rfl⟩
  rw [← hU]
  have pre := hU
  unfold b_4_23 b_4_142 at pre
  rw [if_neg (show ¬ (384 : Int32) < nI m from nI_nlt (a := 384) (by omega) (by omega)), xg_75_0, xV_58, j_fine f, bI_s, if_neg (by decide), xg_75_4, C.2.2.2.2.2.2.1, ymg_4 C.pq, wya_18 C.pq (by omega), h18, if_neg (by decide), xV_75, e5, bN_s, b1, xV_75] at pre
  have A6 : AG s6 z.2.2.2.2 := by
    unfold AG
    rw [row 63 (by decide) (by decide) (by decide) (by decide) (by omega)]
    exact hA
  have G := (hSt_all (E := E) (N := N) (q := q) fu oo hoo).2 (D + 1) (by omega) bt kq i cs s6 j z hbt b2' b3 hVD b4 hz hK A6 hP hb hi0 hkq
  rcases G with ⟨s7, j', l, g1, ⟨a1, a2, a3, a4, a5, a6, a7, a8, a9⟩, g3⟩ | ⟨s7, g1, g2, g3, g4⟩
  · obtain ⟨s8, w1, w2, w3, w4, w5, w6⟩ := put1 (d := D) a2 (by omega) 0 0 (-1)
    have C8 := a2.go w2 w4
    obtain ⟨s9, v1, v2, v3, v4, v5, v6⟩ := put1 (d := D) C8 (by omega) 9 0 (-1)
    have C9 := C8.go v2 v4
    rw [g1, bN_s, xg_75_5, a2.1.2.2.2.2.2.2.2, ycV C.pq, w1, bI_s, xg_75_5, C8.1.2.2.2.2.2.2.2, ycV C.pq, v1, bI_s, nI_1] at pre
    have r23 : s9.1 (q + 23) = s6.1 (q + 23) := funext fun k => by
      rw [v2.1 (q + 23) k (by unfold c58; omega), w2.1 (q + 23) k (by unfold c58; omega), a6.1 (q + 23) k (by unfold c58; omega)]
    have cp6 : CP q cs s s6 := fun k _ => by
      rw [row _ (by omega) (by omega) (by omega) (by omega) (by omega), row _ (by omega) (by omega) (by omega) (by omega) (by omega), row _ (by omega) (by omega) (by omega) (by omega) (by omega)]
      exact ⟨rfl, rfl, rfl⟩
    refine Or.inl ⟨s9, j', l, pre, a1, C9.1, ⟨by rw [v3, w3]; exact a3.1, by rw [v3, w3]; exact a3.2⟩, a8, v4, ?_, CP.trn cp6 (CP.trn a5 (CP.trn (w6.mono (by omega)) (v6.mono (by omega)))), ?_, o6.tr (a6.C.tr (w2.C.tr v2.C)), by omega⟩
    · have c8 := (a4.keep w6).app w5
      have e8 : (l ++ [((0, 0, -1) : Ins)]).length = l.length + 1 := by rw [List.length_append, List.length_singleton]
      have c9 := (c8.keep (show CP q (cs + (l ++ [((0, 0, -1) : Ins)]).length) s8 s9 by rw [e8, ← Nat.add_assoc]; exact v6)).app (show CL q s9 (cs + (l ++ [((0, 0, -1) : Ins)]).length) [(9, 0, -1)] by rw [e8, ← Nat.add_assoc]; exact v5)
      rw [List.append_assoc] at c9
      exact c9
    · rw [r23, b7, r5 _ (by omega) (by omega) (by omega) (by omega)]
  · obtain ⟨s8, n1, w1, w2, w3, w4, w5⟩ := n_emit (d := D) g3 0 0 (-1)
    obtain ⟨s9, n2, v1, v2, v3, v4, v5⟩ := n_emit (d := D) w3 9 0 (-1)
    rw [g1, bN_s, xg_75_5, g3.1.2.2.2.2.2.2.2, ycV C.pq, w1, bI_s, xg_75_5, w3.1.2.2.2.2.2.2.2, ycV C.pq, v1, bI_s, nI_1] at pre
    exact Or.inr ⟨s9, pre, g2, v3, o6.tr (g4.tr (w4.tr v4))⟩
end MJA50
