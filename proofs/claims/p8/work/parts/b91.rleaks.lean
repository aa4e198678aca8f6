/-! ===== the LEAKS, the reference ===== -/
section MJB91
variable {T : TT} {d b o w i n m c : Nat} {L : List CD} {H : HEAP} {Q : WQ} {s s' : mjSt3}
theorem L252a_S (R : mjR) (n a : Nat) (x : Int32) (hp : mjH) : L_252_20 R (n + 1) a x hp = b_252_20 R (L_252_20 R n) a x hp := rfl
theorem L252b_S (R : mjR) (n a : Nat) (x : Int32) (hp : mjH) : L_252_43 R (n + 1) a x hp = b_252_43 R (L_252_43 R n) a x hp := rfl
theorem L252c_S (R : mjR) (n a : Nat) (x : Int32) (hp : mjH) : L_252_66 R (n + 1) a x hp = b_252_66 R (L_252_66 R n) a x hp := rfl
theorem L252d_S (R : mjR) (n a : Nat) (x : Int32) (hp : mjH) : L_252_93 R (n + 1) a x hp = b_252_93 R (L_252_93 R n) a x hp := rfl
theorem L252e_S (R : mjR) (k93 : Nat → Int32 → mjH → mjU) (n a : Nat) (x y : Int32) (hp : mjH) : L_252_120 R k93 (n + 1) a x y hp = b_252_120 R k93 (L_252_120 R k93 n) a x y hp := rfl
theorem L252f_S (R : mjR) (n a : Nat) (x : Int32) (hp : mjH) : L_252_167 R (n + 1) a x hp = b_252_167 R (L_252_167 R n) a x hp := rfl
theorem lq_252a (R : mjR) (hb : H.1 ≤ 1334) : ∀ (r i n : Nat) (s : mjSt3), i + r = H.1 + 1 → r < n → s.1 97 103 = nI H.1 → (∀ o, o < i → s.1 181 o = 0) → ∃ s', L_252_20 R n 97 (nI i) (mjW0 s) = L_252_43 R mjN 97 (nI 0) (mjW0 s') ∧ oWl s s' ∧ s'.1 97 = s.1 97 ∧ ∀ o, o ≤ H.1 → s'.1 181 o = 0
  | r, i, 0, s, e, hr, h, w => by omega
  | 0, i, n + 1, s, e, hr, h, w => by
    refine ⟨s, ?_, offG.rf, rfl, fun o ho => w o (by omega)⟩
    rw [L252a_S]
    unfold b_252_20
    rw [xg_97_103, h, if_pos (nI_lt (by omega) (by omega))]
    rfl
  | r + 1, i, n + 1, s, e, hr, h, w => by
    obtain ⟨z1, g1⟩ : ∃ y, y = uI s 181 (upd (s.1 181) i 0) := ⟨_, rfl⟩
    have e97 : z1.1 97 = s.1 97 := by rw [g1, uI_ne _ _ _ _ (by decide)]
    obtain ⟨s', a1, a2, a3, a4⟩ := lq_252a R hb r (i + 1) n z1 (by omega) (by omega) (by rw [e97]; exact h) (fun o ho => by
      rw [g1, uI_same, upd_g]
      by_cases q : o = i
      · rw [if_pos q]
      · rw [if_neg q]; exact w o (by omega))
    refine ⟨s', ?_, offG.tr (b := z1) (by rw [g1]; exact oWl.w2 (by omega)) a2, by rw [a3, e97], a4⟩
    rw [L252a_S]
    unfold b_252_20
    rw [xg_97_103, h, if_neg (nI_nlt (by omega) (by omega)), xg_97_125, ws_181 (by omega), nb0, ← g1, nI_1]
    exact a1
theorem lq_252b (R : mjR) (hb : H.1 ≤ 1334) : ∀ (r i n : Nat) (s : mjSt3), i + r = H.1 + 1 → r < n → s.1 97 103 = nI H.1 → ∃ s', L_252_43 R n 97 (nI i) (mjW0 s) = L_252_66 R mjN 97 (nI 1) (mjW0 s') ∧ oWl s s' ∧ s'.1 97 = s.1 97 ∧ s'.1 181 = s.1 181
  | r, i, 0, s, e, hr, h => by omega
  | 0, i, n + 1, s, e, hr, h => by
    refine ⟨s, ?_, offG.rf, rfl, rfl⟩
    rw [L252b_S]
    unfold b_252_43
    rw [xg_97_103, h, if_pos (nI_lt (by omega) (by omega))]
    rfl
  | r + 1, i, n + 1, s, e, hr, h => by
    obtain ⟨z1, g1⟩ : ∃ y, y = uI s 186 (upd (s.1 186) i 0) := ⟨_, rfl⟩
    have e97 : z1.1 97 = s.1 97 := by rw [g1, uI_ne _ _ _ _ (by decide)]
    obtain ⟨s', a1, a2, a3, a4⟩ := lq_252b R hb r (i + 1) n z1 (by omega) (by omega) (by rw [e97]; exact h)
    refine ⟨s', ?_, offG.tr (b := z1) (by rw [g1]; exact oWl.w2 (by omega)) a2, by rw [a3, e97], by rw [a4, g1, uI_ne _ _ _ _ (by decide)]⟩
    rw [L252b_S]
    unfold b_252_43
    rw [xg_97_103, h, if_neg (nI_nlt (by omega) (by omega)), xg_97_135, ws_186 (by omega), nb0, ← g1, nI_1]
    exact a1
/-- those who own -/
theorem lq_252c (P : HWp T L b H) : ∀ (r i n : Nat) (s : mjSt3), i + r = H.1 + 1 → 1 ≤ i → r < n → HWr T L b H s → (∀ o, 1 ≤ o → o < i → ¬ s.1 186 ((H.2 o).2.1 0) = 0) → ∃ s', L_252_66 (mjF (d + 1)) n 97 (nI i) (mjW0 s) = L_252_93 (mjF (d + 1)) mjN 97 (nI 1) (mjW0 s') ∧ oWl s s' ∧ s'.1 97 = s.1 97 ∧ s'.1 181 = s.1 181 ∧ ∀ o, 1 ≤ o → o ≤ H.1 → ¬ s'.1 186 ((H.2 o).2.1 0) = 0
  | r, i, 0, s, e, i1, hr, hW, w => by omega
  | 0, i, n + 1, s, e, i1, hr, hW, w => by
    have b1 := P.2.1.1
    have b2' := P.2.1.2
    refine ⟨s, ?_, offG.rf, rfl, rfl, fun o o1 o2 => w o o1 (by omega)⟩
    rw [L252c_S]
    unfold b_252_66
    rw [xg_97_103, hW.2.1, if_pos (nI_lt (by omega) (by omega))]
    rfl
  | r + 1, i, n + 1, s, e, i1, hr, hW, w => by
    have b1 := P.2.1.1
    have b2' := P.2.1.2
    have ol := (P.1 i i1 (by omega)).2.1 0
    obtain ⟨z1, g1⟩ : ∃ y, y = uI s 186 (upd (s.1 186) ((H.2 i).2.1 0) 1) := ⟨_, rfl⟩
    have e97 : z1.1 97 = s.1 97 := by rw [g1, uI_ne _ _ _ _ (by decide)]
    have o1' : oWl s z1 := by rw [g1]; exact oWl.w2 (by omega)
    obtain ⟨s', a1, a2, a3, a4, a5⟩ := lq_252c P r (i + 1) n z1 (by omega) (by omega) (by omega) (hW.wl o1') (fun o o1 o2 => by
      rw [g1, uI_same, upd_g]
      by_cases q : (H.2 o).2.1 0 = (H.2 i).2.1 0
      · rw [if_pos q]; decide
      · rw [if_neg q]
        exact w o o1 (by
          by_cases y : o = i
          · exact absurd (by rw [y]) q
          · omega))
    refine ⟨s', ?_, offG.tr o1' a2, by rw [a3, e97], by rw [a4, g1, uI_ne _ _ _ _ (by decide)], a5⟩
    rw [L252c_S]
    unfold b_252_66
    rw [xg_97_103, hW.2.1, if_neg (nI_nlt (by omega) (by omega)), xg_97_135, xV_97, x_253 hW.1 P.2.1 (P.n1 i1 (by omega)) i1 (by omega), bI_s, ws_186 (by omega), nb1, ← g1, nI_1]
    exact a1
/-- those of one owner -/
theorem lq_252e (k93 : Nat → Int32 → mjH → mjU) (P : HWp T L b H) (w1 : 1 ≤ w) (w2 : w ≤ H.1) : ∀ (r i n : Nat) (s : mjSt3), i + r = H.1 + 1 → 1 ≤ i → r < n → HWr T L b H s → WRr H (walkR T L H w) s → (∀ o, 1 ≤ o → o ≤ H.1 → s.1 181 o = b2 (lkO T L H o && (decide ((H.2 o).2.1 0 < w) || (decide ((H.2 o).2.1 0 = w) && decide (o < i))))) → ∃ s', L_252_120 (mjF (d + 1)) k93 n 97 (nI w) (nI i) (mjW0 s) = k93 97 (nI (w + 1)) (mjW0 s') ∧ oWl s s' ∧ s'.1 97 = s.1 97 ∧ s'.1 186 = s.1 186 ∧ ∀ o, 1 ≤ o → o ≤ H.1 → s'.1 181 o = b2 (lkO T L H o && decide ((H.2 o).2.1 0 < w + 1))
  | r, i, 0, s, e, i1, hr, hW, W, K => by omega
  | 0, i, n + 1, s, e, i1, hr, hW, W, K => by
    have b1 := P.2.1.1
    have b2' := P.2.1.2
    refine ⟨s, ?_, offG.rf, rfl, rfl, fun o o1 o2 => ?_⟩
    · rw [L252e_S]
      unfold b_252_120 b_252_159
      rw [xg_97_103, hW.2.1, if_pos (nI_lt (by omega) (by omega)), nI_1]
    · rw [K o o1 o2, decide_eq_true (show o < i by omega), Bool.and_true]
      congr 2
      by_cases q : (H.2 o).2.1 0 < w
      · rw [decide_eq_true q, decide_eq_true (show (H.2 o).2.1 0 < w + 1 by omega)]; rfl
      · rw [decide_eq_false q, Bool.false_or]
        by_cases q2 : (H.2 o).2.1 0 = w
        · rw [decide_eq_true q2, decide_eq_true (show (H.2 o).2.1 0 < w + 1 by omega)]
        · rw [decide_eq_false q2, decide_eq_false (show ¬ (H.2 o).2.1 0 < w + 1 by omega)]
  | r + 1, i, n + 1, s, e, i1, hr, hW, W, K => by
    have b1 := P.2.1.1
    have b2' := P.2.1.2
    have ol := (P.1 i i1 (by omega)).2.1 0
    have pre : L_252_120 (mjF (d + 1)) k93 (n + 1) 97 (nI w) (nI i) (mjW0 s) = (if nI ((H.2 i).2.1 0) = nI w then (if b2 (inWb (walkR T L H w) i) = 0 then L_252_120 (mjF (d + 1)) k93 n 97 (nI w) (nI (i + 1)) (mjW0 s) else L_252_120 (mjF (d + 1)) k93 n 97 (nI w) (nI (i + 1)) (mjW0 (uI s 181 (upd (s.1 181) i 1)))) else L_252_120 (mjF (d + 1)) k93 n 97 (nI w) (nI (i + 1)) (mjW0 s)) := by
      rw [L252e_S]
      unfold b_252_120 b_252_153
      rw [xg_97_103, hW.2.1, if_neg (nI_nlt (by omega) (by omega)), xV_97, x_253 hW.1 P.2.1 (P.n1 i1 (by omega)) i1 (by omega), bI_s, xg_97_120, wa_177 (by omega), W.2.2 i (by omega), xg_97_125, ws_181 (by omega), nb1, nI_1]
    have same : (¬ (H.2 i).2.1 0 = w ∨ inWb (walkR T L H w) i = false) → ∀ o, 1 ≤ o → o ≤ H.1 → s.1 181 o = b2 (lkO T L H o && (decide ((H.2 o).2.1 0 < w) || (decide ((H.2 o).2.1 0 = w) && decide (o < i + 1)))) := by
      intro hh o o1 o2
      rw [K o o1 o2]
      by_cases q : o = i
      · rw [q, decide_eq_false (show ¬ i < i by omega), decide_eq_true (show i < i + 1 by omega), Bool.and_false, Bool.and_true, Bool.or_false]
        rcases hh with h | h
        · rw [decide_eq_false h, Bool.or_false]
        · by_cases y : (H.2 i).2.1 0 = w
          · have lk : lkO T L H i = false := by
              unfold lkO
              rw [y, h, Bool.and_false]
            rw [lk, Bool.false_and, Bool.false_and]
          · rw [decide_eq_false y, Bool.or_false]
      · by_cases y : o < i
        · rw [decide_eq_true y, decide_eq_true (show o < i + 1 by omega)]
        · rw [decide_eq_false y, decide_eq_false (show ¬ o < i + 1 by omega)]
    rw [pre]
    by_cases g : (H.2 i).2.1 0 = w
    · rw [if_pos (by rw [g])]
      cases hi : inWb (walkR T L H w) i with
      | false =>
        rw [if_pos (show b2 false = 0 from rfl)]
        exact lq_252e k93 P w1 w2 r (i + 1) n s (by omega) (by omega) (by omega) hW W (same (Or.inr hi))
      | true =>
        rw [if_neg (show ¬ b2 true = 0 by decide)]
        obtain ⟨z1, g1⟩ : ∃ y, y = uI s 181 (upd (s.1 181) i 1) := ⟨_, rfl⟩
        rw [← g1]
        have o1' : oWl s z1 := by rw [g1]; exact oWl.w2 (by omega)
        have rr : ∀ h, ¬ h = 181 → z1.1 h = s.1 h := fun h e => by rw [g1, uI_ne _ _ _ _ e]
        obtain ⟨s', a1, a2, a3, a4, a5⟩ := lq_252e k93 P w1 w2 r (i + 1) n z1 (by omega) (by omega) (by omega) (hW.wl o1') (by
          unfold WRr at W ⊢
          rw [rr 97 (by decide), rr 177 (by decide), rr 178 (by decide), rr 179 (by decide), rr 180 (by decide)]
          exact W) (fun o o1 o2 => by
          rw [g1, uI_same, upd_g]
          by_cases q : o = i
          · have lk : lkO T L H i = true := by
              unfold lkO
              rw [g, hi, decide_eq_false (show ¬ w = 0 by omega)]
              rfl
            rw [if_pos q, q, lk, g, decide_eq_true (show w = w from rfl), decide_eq_true (show i < i + 1 by omega), Bool.and_true, Bool.or_true]
            rfl
          · rw [if_neg q, K o o1 o2]
            by_cases y : o < i
            · rw [decide_eq_true y, decide_eq_true (show o < i + 1 by omega)]
            · rw [decide_eq_false y, decide_eq_false (show ¬ o < i + 1 by omega)])
        exact ⟨s', a1, offG.tr o1' a2, by rw [a3, rr 97 (by decide)], by rw [a4, rr 186 (by decide)], a5⟩
    · rw [if_neg (fun x => g ((nI_eq (by omega) (by omega)).mp x))]
      exact lq_252e k93 P w1 w2 r (i + 1) n s (by omega) (by omega) (by omega) hW W (same (Or.inl g))
theorem oWr_181 (o : oWr s s') : s'.1 181 = s.1 181 ∧ s'.1 186 = s.1 186 ∧ ∀ j, ¬ j = 124 → s'.1 97 j = s.1 97 j := ⟨funext fun j => o.1 181 j (by omega), funext fun j => o.1 186 j (by omega), fun j hj => o.1 97 j (by omega)⟩
/-- all owners -/
theorem lq_252d (P : HWp T L b H) : ∀ (r w n : Nat) (s : mjSt3), w + r = H.1 + 1 → 1 ≤ w → r < n → HWr T L b H s → (∀ o, 1 ≤ o → o ≤ H.1 → ¬ s.1 186 ((H.2 o).2.1 0) = 0) → (∀ o, 1 ≤ o → o ≤ H.1 → s.1 181 o = b2 (lkO T L H o && decide ((H.2 o).2.1 0 < w))) → ∃ s', L_252_93 (mjF (d + 3)) n 97 (nI w) (mjW0 s) = L_252_167 (mjF (d + 3)) mjN 97 (nI 1) (mjW0 s') ∧ oWl s s' ∧ (∀ j, ¬ j = 124 → s'.1 97 j = s.1 97 j) ∧ ∀ o, 1 ≤ o → o ≤ H.1 → s'.1 181 o = b2 (lkO T L H o)
  | r, w, 0, s, e, w1, hr, hW, U, K => by omega
  | 0, w, n + 1, s, e, w1, hr, hW, U, K => by
    have b1 := P.2.1.1
    have b2' := P.2.1.2
    refine ⟨s, ?_, offG.rf, fun _ _ => rfl, fun o o1 o2 => ?_⟩
    · rw [L252d_S]
      unfold b_252_93
      rw [xg_97_103, hW.2.1, if_pos (nI_lt (by omega) (by omega))]
      rfl
    · have ol := (P.1 o o1 o2).2.1 0
      rw [K o o1 o2, decide_eq_true (show (H.2 o).2.1 0 < w by omega), Bool.and_true]
  | r + 1, w, n + 1, s, e, w1, hr, hW, U, K => by
    have b1 := P.2.1.1
    have b2' := P.2.1.2
    have pre : L_252_93 (mjF (d + 3)) (n + 1) 97 (nI w) (mjW0 s) = (if s.1 186 w = 0 then L_252_93 (mjF (d + 3)) n 97 (nI (w + 1)) (mjW0 s) else bN (mjF (d + 3) 254 [.ref 97, .int (nI w)] (mjW0 s)) (fun hp4 => L_252_120 (mjF (d + 3)) (L_252_93 (mjF (d + 3)) n) mjN 97 (nI w) (nI 1) hp4)) := by
      rw [L252d_S]
      unfold b_252_93 b_252_159
      rw [xg_97_103, hW.2.1, if_neg (nI_nlt (by omega) (by omega)), xg_97_135, wa_186 (by omega), xV_97, nI_1]
      rfl
    rw [pre]
    by_cases g : s.1 186 w = 0
    · rw [if_pos g]
      refine lq_252d P r (w + 1) n s (by omega) (by omega) (by omega) hW U (fun o o1 o2 => ?_)
      have ne : ¬ (H.2 o).2.1 0 = w := fun x => U o o1 o2 (by rw [x]; exact g)
      rw [K o o1 o2]
      by_cases q : (H.2 o).2.1 0 < w
      · rw [decide_eq_true q, decide_eq_true (show (H.2 o).2.1 0 < w + 1 by omega)]
      · rw [decide_eq_false q, decide_eq_false (show ¬ (H.2 o).2.1 0 < w + 1 by omega)]
    · rw [if_neg g]
      obtain ⟨s1, a1, a2, a3, a4⟩ := x_254 (d := d) (sh := w) P (by omega) hW
      obtain ⟨k1, k2, k3⟩ := oWr_181 a2
      obtain ⟨s2, c1, c2, c3, c4, c5⟩ := lq_252e (d := d + 2) (L_252_93 (mjF (d + 3)) n) P w1 (by omega) H.1 1 mjN s1 (by omega) (by omega) (by unfold mjN; omega) (hW.wr a2) a3 (fun o o1 o2 => by
        rw [k1, K o o1 o2, decide_eq_false (show ¬ o < 1 by omega), Bool.and_false, Bool.or_false])
      obtain ⟨s3, d1, d2, d3, d4⟩ := lq_252d P r (w + 1) n s2 (by omega) (by omega) (by omega) ((hW.wr a2).wl c2) (fun o o1 o2 => by rw [c4, k2]; exact U o o1 o2) c5
      refine ⟨s3, ?_, offG.tr a2.l (offG.tr c2 d2), fun j hj => by rw [d3 j hj, c3, k3 j hj], d4⟩
      rw [a1, bN_s]
      exact c1.trans d1
/-- how many -/
theorem lq_252f (R : mjR) (hb : H.1 ≤ 1334) : ∀ (r o n : Nat) (s : mjSt3), o + 1 + r = H.1 + 1 → r < n → s.1 97 103 = nI H.1 → s.1 97 127 = nI (lkN T L H o) → (∀ o, 1 ≤ o → o ≤ H.1 → s.1 181 o = b2 (lkO T L H o)) → ∃ s', L_252_167 R n 97 (nI (o + 1)) (mjW0 s) = some (none, mjW0 s') ∧ oWl s s' ∧ s'.1 181 = s.1 181 ∧ s'.1 97 126 = s.1 97 126 ∧ s'.1 97 127 = nI (lkN T L H H.1)
  | r, o, 0, s, e, hr, h, h7, K => by omega
  | 0, o, n + 1, s, e, hr, h, h7, K => by
    have eo : o = H.1 := by omega
    refine ⟨s, ?_, offG.rf, rfl, rfl, by rw [h7, eo]⟩
    rw [L252f_S]
    unfold b_252_167
    rw [xg_97_103, h, if_pos (nI_lt (by omega) (by omega))]
  | r + 1, o, n + 1, s, e, hr, h, h7, K => by
    obtain ⟨z1, g1⟩ : ∃ y, y = uI s 97 (upd (s.1 97) 127 (nI (lkN T L H (o + 1)))) := ⟨_, rfl⟩
    have v1 : ∀ j, z1.1 97 j = if j = 127 then nI (lkN T L H (o + 1)) else s.1 97 j := fun j => by rw [g1, uI_same, upd_g]
    have r1 : ∀ h, ¬ h = 97 → z1.1 h = s.1 h := fun h e => by rw [g1, uI_ne _ _ _ _ e]
    obtain ⟨s', a1, a2, a3, a4, a5⟩ := lq_252f R hb r (o + 1) n z1 (by omega) (by omega) (by rw [v1, if_neg (by decide)]; exact h) (by rw [v1, if_pos rfl]) (by rw [r1 181 (by decide)]; exact K)
    refine ⟨s', ?_, offG.tr (b := z1) (by rw [g1]; exact oWl.w1 (by omega)) a2, by rw [a3, r1 181 (by decide)], by rw [a4, v1, if_neg (by decide)], a5⟩
    have ln : lkN T L H (o + 1) = lkN T L H o + (if lkO T L H (o + 1) = true then 1 else 0) := rfl
    rw [L252f_S]
    unfold b_252_167 b_252_194
    rw [xg_97_103, h, if_neg (nI_nlt (by omega) (by omega)), xg_97_127, h7, xg_97_125, wa_181 (by omega), K (o + 1) (by omega) (by omega), nI_1]
    cases hl : lkO T L H (o + 1) with
    | false =>
      rw [hl, if_neg (show ¬ false = true by decide)] at ln
      rw [if_pos (show b2 false = 0 from rfl), show nI (lkN T L H o) + (0 : Int32) = nI (lkN T L H (o + 1)) by rw [ln]; exact nI_add _ 0, xp_97_127, ← g1]
      exact a1
    | true =>
      rw [hl, if_pos rfl] at ln
      rw [if_neg (show ¬ b2 true = 0 by decide), nI_1, ← ln, xp_97_127, ← g1]
      exact a1
/-- learn -/
theorem x_252 (P : HWp T L b H) (hW : HWr T L b H s) (K : KNm T L H s) : ∃ s', mjF (d + 4) 252 [.ref 97] (mjW0 s) = some (none, mjW0 s') ∧ oWl s s' ∧ s'.1 97 126 = 1 ∧ KNm T L H s' := by
  have b1 := P.2.1.1
  have b2' := P.2.1.2
  rcases K with h0 | h1
  · obtain ⟨z1, g1⟩ : ∃ y, y = uI s 97 (upd (s.1 97) 126 1) := ⟨_, rfl⟩
    obtain ⟨z2, g2⟩ : ∃ y, y = uI z1 97 (upd (z1.1 97) 127 0) := ⟨_, rfl⟩
    have v2 : ∀ j, z2.1 97 j = if j = 127 then 0 else if j = 126 then 1 else s.1 97 j := fun j => by rw [g2, uI_same, upd_g, g1, uI_same, upd_g]
    have o2 : oWl s z2 := offG.tr (b := z1) (by rw [g1]; exact oWl.w1 (by omega)) (by rw [g2]; exact oWl.w1 (by omega))
    obtain ⟨s1, a1, a2, a3, a4⟩ := lq_252a (mjF (d + 3)) (show H.1 ≤ 1334 by omega) (H.1 + 1) 0 mjN z2 (by omega) (by unfold mjN; omega) (by rw [v2, if_neg (by decide), if_neg (by decide)]; exact hW.2.1) (fun o ho => absurd ho (Nat.not_lt_zero o))
    obtain ⟨s2, c1, c2, c3, c4⟩ := lq_252b (mjF (d + 3)) (show H.1 ≤ 1334 by omega) (H.1 + 1) 0 mjN s1 (by omega) (by unfold mjN; omega) (by rw [a3, v2, if_neg (by decide), if_neg (by decide)]; exact hW.2.1)
    have oc : oWl s s2 := offG.tr o2 (offG.tr a2 c2)
    obtain ⟨s3, e1, e2, e3, e4, e5⟩ := lq_252c (d := d + 2) P H.1 1 mjN s2 (by omega) (by omega) (by unfold mjN; omega) (hW.wl oc) (fun o o1 o2 => by omega)
    obtain ⟨s4, f1, f2, f3, f4⟩ := lq_252d (d := d) P H.1 1 mjN s3 (by omega) (by omega) (by unfold mjN; omega) ((hW.wl oc).wl e2) e5 (fun o o1 o2 => by
      rw [e4, c4, a4 o o2]
      by_cases q : (H.2 o).2.1 0 = 0
      · have lk : lkO T L H o = false := by unfold lkO; rw [decide_eq_true q]; rfl
        rw [lk]; rfl
      · rw [decide_eq_false (show ¬ (H.2 o).2.1 0 < 1 by omega), Bool.and_false]; rfl)
    have o4 : oWl s s4 := offG.tr oc (offG.tr e2 f2)
    have x97 : ∀ j, ¬ j = 124 → s4.1 97 j = z2.1 97 j := fun j hj => by rw [f3 j hj, e3, c3, a3]
    obtain ⟨s5, k1, k2, k3, k4, k5⟩ := lq_252f (T := T) (L := L) (mjF (d + 3)) (show H.1 ≤ 1334 by omega) H.1 0 mjN s4 (by omega) (by unfold mjN; omega) (by rw [x97 103 (by decide), v2, if_neg (by decide), if_neg (by decide)]; exact hW.2.1) (by rw [x97 127 (by decide), v2, if_pos rfl]; rfl) f4
    have k6 : s5.1 97 126 = 1 := by rw [k4, x97 126 (by decide), v2, if_neg (by decide), if_pos rfl]
    refine ⟨s5, ?_, offG.tr o4 k2, k6, Or.inr ⟨k6, by rw [k3]; exact f4, k5⟩⟩
    rw [e_252]
    unfold f_252 b_252_0
    rw [xg_97_126, h0, if_pos rfl, xp_97_126 (by decide), ← g1, xp_97_127, ← g2]
    exact a1.trans (c1.trans (e1.trans (f1.trans k1)))
  · refine ⟨s, ?_, offG.rf, h1.1, Or.inr h1⟩
    rw [e_252]
    unfold f_252 b_252_0
    rw [xg_97_126, h1.1, if_neg (show ¬ ((1 : Int32) = 0) by decide)]
end MJB91
