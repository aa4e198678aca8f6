/-! ===== the reference's judge: knows ===== -/
def MX (C : Nat) (s : mjSt3) (w : Nat → Nat → Bool) : Prop := ∀ i, i < 7 → ∀ j, j < 7 → s.1 119 (49 * C + 7 * i + j) = b2 (w i j)
def oW (C : Nat) : mjSt3 → mjSt3 → Prop := offG (fun h j => h = 119 ∧ 49 * C ≤ j ∧ j < 49 * C + 49) (fun _ _ => False)
theorem dv49 : ∀ k, k < 49 → nI k / 7 = nI (k / 7) ∧ nI k - nI k / 7 * 7 = nI (k % 7) := by decide
theorem clo_rm {w : Nat → Nat → Bool} (m i : Nat) : clo w (m + 1) i m = clo w m i m := by
  show (clo w m i m || (clo w m i m && clo w m m m)) = _
  cases clo w m i m <;> rfl
theorem clo_mr {w : Nat → Nat → Bool} (m j : Nat) : clo w (m + 1) m j = clo w m m j := by
  show (clo w m m j || (clo w m m m && clo w m m j)) = _
  cases clo w m m j <;> cases clo w m m m <;> rfl
section MJA71
variable {T : TT} {d N b c n C : Nat} {ks : List Nat} {L : List CD} {s s' : mjSt3} {w w' : Nat → Nat → Bool}
theorem MX.cg (h : MX C s w) (e : ∀ i j, i < 7 → j < 7 → w i j = w' i j) : MX C s w' := fun i hi j hj => by rw [h i hi j hj, e i j hi hj]
theorem MX.st (h : MX C s w) {x y : Nat} (hx : x < 7) (hy : y < 7) : MX C (uI s 119 (upd (s.1 119) (49 * C + 7 * x + y) 1)) (fun i j => w i j || (decide (i = x) && decide (j = y))) := by
  intro i hi j hj
  rw [uI_same, upd_g]
  by_cases e : i = x ∧ j = y
  · rw [if_pos (by rw [e.1, e.2]), e.1, e.2]
    dsimp only
    rw [decide_eq_true rfl, decide_eq_true rfl]
    cases w x y <;> rfl
  · rw [if_neg (by omega), h i hi j hj]
    dsimp only
    have : (decide (i = x) && decide (j = y)) = false := by
      rw [Bool.and_eq_false_iff]
      by_cases e1 : i = x
      · exact Or.inr (decide_eq_false (fun e2 => e ⟨e1, e2⟩))
      · exact Or.inl (decide_eq_false e1)
    rw [this, Bool.or_false]
theorem oW.st {x : Nat} {v : Int32} (hx : x < 49) : oW C s (uI s 119 (upd (s.1 119) (49 * C + x) v)) := offG.w ⟨rfl, by omega, by omega⟩
theorem L308_7 (R : mjR) (n a : Nat) (b e f : Int32) (hp : mjH) : L_308_7 R (n + 1) a b e f hp = b_308_7 R (L_308_7 R n) a b e f hp := rfl
theorem L308_64 (R : mjR) (n a : Nat) (b e f : Int32) (hp : mjH) : L_308_64 R (n + 1) a b e f hp = b_308_64 R (L_308_64 R n) a b e f hp := rfl
theorem L308_94 (R : mjR) (n a : Nat) (b e f : Int32) (hp : mjH) : L_308_94 R (n + 1) a b e f hp = b_308_94 R (L_308_94 R n) a b e f hp := rfl
theorem L308_141 (R : mjR) (n a : Nat) (b e : Int32) (hp : mjH) : L_308_141 R (n + 1) a b e hp = b_308_141 R (L_308_141 R n) a b e hp := rfl
theorem L308_150 (R : mjR) (k : Nat → Int32 → Int32 → mjH → mjU) (n a : Nat) (b e f : Int32) (hp : mjH) : L_308_150 R k (n + 1) a b e f hp = b_308_150 R k (L_308_150 R k n) a b e f hp := rfl
theorem L308_160 (R : mjR) (k : Nat → Int32 → Int32 → mjH → mjU) (k' : Nat → Int32 → Int32 → Int32 → mjH → mjU) (n a : Nat) (b e f g : Int32) (hp : mjH) : L_308_160 R k k' (n + 1) a b e f g hp = b_308_160 R k k' (L_308_160 R k k' n) a b e f g hp := rfl
theorem nar1b : vp_nar .boolean 1 = 1 := rfl
theorem nar0b : vp_nar .boolean 0 = 0 := rfl
/-- the table's beginning -/
theorem lq_308a (R : mjR) (hC : C < 32) : ∀ (r k m : Nat) (s : mjSt3), k + r = 49 → r < m → (∀ x, x < k → s.1 119 (49 * C + x) = b2 (decide (x / 7 = x % 7) || decide (x % 7 = 6))) → ∃ s' m', L_308_7 R m 97 (nI C) (nI (49 * C)) (nI k) (mjW0 s) = b_308_7 R (L_308_7 R m') 97 (nI C) (nI (49 * C)) (nI 49) (mjW0 s') ∧ oW C s s' ∧ ∀ x, x < 49 → s'.1 119 (49 * C + x) = b2 (decide (x / 7 = x % 7) || decide (x % 7 = 6))
  | r, k, 0, s, e, hr, h => by omega
  | 0, k, m + 1, s, e, hr, h => ⟨s, m, by rw [show k = 49 by omega, L308_7], offG.rf, fun x hx => h x (by omega)⟩
  | r + 1, k, m + 1, s, e, hr, h => by
    obtain ⟨v, hv⟩ : ∃ v, v = b2 (decide (k / 7 = k % 7) || decide (k % 7 = 6)) := ⟨_, rfl⟩
    have D := dv49 k (by omega)
    have pre : L_308_7 R (m + 1) 97 (nI C) (nI (49 * C)) (nI k) (mjW0 s) = L_308_7 R m 97 (nI C) (nI (49 * C)) (nI (k + 1)) (mjW0 (uI s 119 (upd (s.1 119) (49 * C + k) v))) := by
      rw [L308_7]
      unfold b_308_7 b_308_40 b_308_45
      rw [if_neg (show ¬ (49 : Int32) ≤ nI k from nI_ge (b := 49) (by omega) (by decide)), xg_97_30, D.2, D.1, nI_ad, nI_1]
      by_cases g1 : k / 7 = k % 7
      · have v1 : v = 1 := by rw [hv, decide_eq_true g1]; rfl
        rw [if_pos (show nI (k / 7) = nI (k % 7) by rw [g1]), ws_119 (by omega), nar1b, v1]
      · rw [if_neg (show ¬ nI (k / 7) = nI (k % 7) from fun x => g1 ((nI_eq (by omega) (by omega)).mp x))]
        by_cases g2 : k % 7 = 6
        · have v1 : v = 1 := by rw [hv, decide_eq_true g2, Bool.or_true]; rfl
          rw [if_pos (show nI (k % 7) = 6 by rw [g2]; rfl), ws_119 (by omega), nar1b, v1]
        · have v0 : v = 0 := by rw [hv, decide_eq_false g1, decide_eq_false g2]; rfl
          rw [if_neg (show ¬ nI (k % 7) = 6 from fun x => g2 ((nI_eq (b := 6) (by omega) (by omega)).mp x)), ws_119 (by omega), nar0b, v0]
    obtain ⟨s', m', a1, a2, a3⟩ := lq_308a R hC r (k + 1) m (uI s 119 (upd (s.1 119) (49 * C + k) v)) (by omega) (by omega) (fun x hx => by
      rw [uI_same, upd_g]
      by_cases e' : x = k
      · rw [if_pos (by omega), e', hv]
      · rw [if_neg (by omega)]; exact h x (by omega))
    exact ⟨s', m', pre.trans a1, (oW.st (by omega)).tr a2, a3⟩
/-- the first NAME is IN the others -/
theorem lq_308b (R : mjR) (hC : C < 32) (hn : n ≤ 5) : ∀ (r k m : Nat) (s : mjSt3), k + r = n → r < m → s.1 104 C = nI n → MX C s (fun i j => w i j || (decide (i = 0) && decide (j < k))) → ∃ s', L_308_64 R m 97 (nI C) (nI (49 * C)) (nI k) (mjW0 s) = L_308_94 R mjN 97 (nI C) (nI (49 * C)) (nI (8 * C)) (mjW0 s') ∧ oW C s s' ∧ MX C s' (fun i j => w i j || (decide (i = 0) && decide (j < n)))
  | r, k, 0, s, e, hr, h4, h => by omega
  | 0, k, m + 1, s, e, hr, h4, h => by
    refine ⟨s, ?_, offG.rf, by rw [show n = k by omega]; exact h⟩
    rw [L308_64]
    unfold b_308_64
    rw [xg_97_15, wa_104 (by omega), h4, if_pos (nI_le (by omega) (by omega)), show (8 : Int32) = nI 8 from rfl, nI_mul]
  | r + 1, k, m + 1, s, e, hr, h4, h => by
    have hk : k < 7 := by omega
    have st := h.st (x := 0) (y := k) (by omega) hk
    rw [show 49 * C + 7 * 0 + k = 49 * C + k by omega] at st
    obtain ⟨s', a1, a2, a3⟩ := lq_308b R hC hn r (k + 1) m (uI s 119 (upd (s.1 119) (49 * C + k) 1)) (by omega) (by omega) (by rw [uI_ne _ _ _ _ (by decide)]; exact h4) (st.cg (fun i j _ _ => by
      try dsimp only
      by_cases e1 : i = 0
      · by_cases e2 : j = k
        · rw [decide_eq_true e1, decide_eq_true e2, decide_eq_true (show j < k + 1 by omega)]; cases w i j <;> simp
        · rw [decide_eq_false e2, Bool.and_false, Bool.or_false, decide_eq_decide.mpr (show j < k ↔ j < k + 1 by omega)]
      · rw [decide_eq_false e1]; simp))
    refine ⟨s', ?_, (oW.st (by omega)).tr a2, a3⟩
    rw [← a1, L308_64]
    unfold b_308_64
    rw [xg_97_15, wa_104 (by omega), h4, if_neg (nI_ge (by omega) (by omega)), xg_97_30, nI_ad, ws_119 (by omega), nar1b, nI_1]
/-- the INS that were told -/
theorem lq_308c (R : mjR) (hC : C < 32) {iN : Nat} {ip : Nat → Nat × Nat} (hi : iN ≤ 8) (hip : ∀ x, x < iN → (ip x).1 < 7 ∧ (ip x).2 < 7) : ∀ (r k m : Nat) (s : mjSt3), k + r = iN → r < m → s.1 106 C = nI iN → (∀ x, x < iN → s.1 117 (8 * C + x) = nI (ip x).1 ∧ s.1 118 (8 * C + x) = nI (ip x).2) → MX C s (fun i j => w i j || anyB (fun x => decide (ip x = (i, j))) k) → ∃ s', L_308_94 R m 97 (nI C) (nI (49 * C)) (nI (8 * C + k)) (mjW0 s) = L_308_141 R mjN 97 (nI (49 * C)) (nI 0) (mjW0 s') ∧ oW C s s' ∧ MX C s' (fun i j => w i j || anyB (fun x => decide (ip x = (i, j))) iN)
  | r, k, 0, s, e, hr, h6, hs, h => by omega
  | 0, k, m + 1, s, e, hr, h6, hs, h => by
    refine ⟨s, ?_, offG.rf, by rw [show iN = k by omega]; exact h⟩
    rw [L308_94]
    unfold b_308_94
    rw [xg_97_17, wa_106 (by omega), h6, i8m, if_pos (nI_le (by omega) (by omega))]
    rfl
  | r + 1, k, m + 1, s, e, hr, h6, hs, h => by
    obtain ⟨p1, p2⟩ := hip k (by omega)
    obtain ⟨q1, q2⟩ := hs k (by omega)
    have st := h.st p1 p2
    obtain ⟨s', a1, a2, a3⟩ := lq_308c R hC hi hip r (k + 1) m (uI s 119 (upd (s.1 119) (49 * C + 7 * (ip k).1 + (ip k).2) 1)) (by omega) (by omega) (by rw [uI_ne _ _ _ _ (by decide)]; exact h6) (fun x hx => by rw [uI_ne _ _ _ _ (by decide), uI_ne _ _ _ _ (by decide)]; exact hs x hx) (st.cg (fun i j _ _ => by
      try dsimp only
      show (w i j || anyB (fun x => decide (ip x = (i, j))) k || (decide (i = (ip k).1) && decide (j = (ip k).2))) = (w i j || (anyB (fun x => decide (ip x = (i, j))) k || decide (ip k = (i, j))))
      have : (decide (i = (ip k).1) && decide (j = (ip k).2)) = decide (ip k = (i, j)) := by
        rw [Bool.eq_iff_iff, Bool.and_eq_true, decide_eq_true_iff, decide_eq_true_iff, decide_eq_true_iff]
        constructor
        · intro ⟨x, y⟩; rw [x, y]
        · intro x; rw [x]; exact ⟨rfl, rfl⟩
      rw [this, Bool.or_assoc]))
    refine ⟨s', ?_, ?_, a3⟩
    · rw [show 8 * C + (k + 1) = 8 * C + k + 1 by omega] at a1
      rw [← a1, L308_94]
      unfold b_308_94
      rw [xg_97_17, wa_106 (by omega), h6, i8m, if_neg (nI_ge (by omega) (by omega)), xg_97_30, xg_97_28, wa_117 (by omega), q1, xg_97_29, wa_118 (by omega), q2, show (7 : Int32) = nI 7 from rfl, nI_mul, nI_ad, nI_ad, ws_119 (by omega), nar1b, nI_1]
    · have o1 : oW C s (uI s 119 (upd (s.1 119) (49 * C + 7 * (ip k).1 + (ip k).2) 1)) := offG.w ⟨rfl, by omega, by omega⟩
      exact o1.tr a2
/-- closing: while round m is at i, j -/
def wmm (w : Nat → Nat → Bool) (m i j x y : Nat) : Bool := if x < i ∨ (x = i ∧ y < j) then clo w (m + 1) x y else clo w m x y
theorem lq_308j (R : mjR) (hC : C < 32) {k1 : Nat → Int32 → Int32 → mjH → mjU} {k2 : Nat → Int32 → Int32 → Int32 → mjH → mjU} {m i : Nat} (hm : m < 7) (hi : i < 7) : ∀ (r j n : Nat) (s : mjSt3), j + r = 7 → r < n → MX C s (wmm w m i j) → ∃ s', L_308_160 R k1 k2 n 97 (nI (49 * C)) (nI m) (nI i) (nI j) (mjW0 s) = k2 97 (nI (49 * C)) (nI m) (nI (i + 1)) (mjW0 s') ∧ oW C s s' ∧ MX C s' (wmm w m i 7)
  | r, j, 0, s, e, hr, h => by omega
  | 0, j, n + 1, s, e, hr, h => by
    refine ⟨s, ?_, offG.rf, by rw [show 7 = j by omega]; exact h⟩
    rw [L308_160]
    unfold b_308_160
    rw [if_pos (show (7 : Int32) ≤ nI j from nI_le (a := 7) (show 7 ≤ j by omega) (by omega)), nI_1]
  | r + 1, j, n + 1, s, e, hr, h => by
    have r1 : s.1 119 (49 * C + 7 * i + m) = b2 (clo w m i m) := by
      rw [h i hi m hm]
      unfold wmm
      by_cases g : i < i ∨ (i = i ∧ m < j)
      · rw [if_pos g, clo_rm]
      · rw [if_neg g]
    have r2 : s.1 119 (49 * C + 7 * m + j) = b2 (clo w m m j) := by
      rw [h m hm j (by omega)]
      unfold wmm
      by_cases g : m < i ∨ (m = i ∧ j < j)
      · rw [if_pos g, clo_mr]
      · rw [if_neg g]
    have keep : (clo w m i m && clo w m m j) = false → MX C s (wmm w m i (j + 1)) := by
      intro hf
      refine h.cg (fun x y hx hy => ?_)
      unfold wmm
      by_cases e1 : x = i ∧ y = j
      · rw [e1.1, e1.2, if_neg (by omega), if_pos (by omega)]
        show _ = (clo w m i j || (clo w m i m && clo w m m j))
        rw [hf, Bool.or_false]
      · by_cases g : x < i ∨ (x = i ∧ y < j)
        · rw [if_pos g, if_pos (by omega)]
        · rw [if_neg g, if_neg (by omega)]
    have go : ∀ z, oW C s z → MX C z (wmm w m i (j + 1)) → L_308_160 R k1 k2 (n + 1) 97 (nI (49 * C)) (nI m) (nI i) (nI j) (mjW0 s) = L_308_160 R k1 k2 n 97 (nI (49 * C)) (nI m) (nI i) (nI (j + 1)) (mjW0 z) → ∃ s', L_308_160 R k1 k2 (n + 1) 97 (nI (49 * C)) (nI m) (nI i) (nI j) (mjW0 s) = k2 97 (nI (49 * C)) (nI m) (nI (i + 1)) (mjW0 s') ∧ oW C s s' ∧ MX C s' (wmm w m i 7) := by
      intro z oz hz pz
      obtain ⟨s', a1, a2, a3⟩ := lq_308j R hC (k1 := k1) (k2 := k2) hm hi r (j + 1) n z (by omega) (by omega) hz
      exact ⟨s', pz.trans a1, oz.tr a2, a3⟩
    have ix : ∀ a c : Nat, nI (49 * C) + (7 : Int32) * nI a + nI c = nI (49 * C + 7 * a + c) := fun a c => by rw [show (7 : Int32) = nI 7 from rfl, nI_mul, nI_ad, nI_ad]
    cases c1 : clo w m i m with
    | false =>
      refine go s offG.rf (keep (by rw [c1]; rfl)) ?_
      rw [L308_160]
      unfold b_308_160 b_308_217
      rw [if_neg (show ¬ (7 : Int32) ≤ nI j from nI_ge (b := 7) (by omega) (by decide)), xg_97_30, ix, wa_119 (by omega), r1, c1, if_pos (show b2 false = 0 from rfl), nI_1]
    | true =>
      cases c2 : clo w m m j with
      | false =>
        refine go s offG.rf (keep (by rw [c1, c2]; rfl)) ?_
        rw [L308_160]
        unfold b_308_160 b_308_217
        rw [if_neg (show ¬ (7 : Int32) ≤ nI j from nI_ge (b := 7) (by omega) (by decide)), xg_97_30, ix, wa_119 (by omega), r1, c1, if_neg (show ¬ b2 true = 0 by decide), xg_97_30, ix, wa_119 (by omega), r2, c2, if_pos (show b2 false = 0 from rfl), nI_1]
      | true =>
        refine go (uI s 119 (upd (s.1 119) (49 * C + 7 * i + j) 1)) (offG.w ⟨rfl, by omega, by omega⟩) ?_ ?_
        · refine (h.st hi (show j < 7 by omega)).cg (fun x y hx hy => ?_)
          unfold wmm
          try dsimp only
          by_cases e1 : x = i ∧ y = j
          · rw [e1.1, e1.2, decide_eq_true rfl, decide_eq_true rfl, if_neg (show ¬ (i < i ∨ (i = i ∧ j < j)) by omega), if_pos (show i < i ∨ (i = i ∧ j < j + 1) by omega)]
            show _ = (clo w m i j || (clo w m i m && clo w m m j))
            rw [c1, c2]
          · have ef : (decide (x = i) && decide (y = j)) = false := by
              rw [Bool.and_eq_false_iff]
              by_cases e2 : x = i
              · exact Or.inr (decide_eq_false (fun e3 => e1 ⟨e2, e3⟩))
              · exact Or.inl (decide_eq_false e2)
            rw [ef, Bool.or_false]
            by_cases g : x < i ∨ (x = i ∧ y < j)
            · rw [if_pos g, if_pos (by omega)]
            · rw [if_neg g, if_neg (by omega)]
        · rw [L308_160]
          unfold b_308_160 b_308_217
          rw [if_neg (show ¬ (7 : Int32) ≤ nI j from nI_ge (b := 7) (by omega) (by decide)), xg_97_30, ix, wa_119 (by omega), r1, c1, if_neg (show ¬ b2 true = 0 by decide), xg_97_30, ix, wa_119 (by omega), r2, c2, if_neg (show ¬ b2 true = 0 by decide), xg_97_30, ix, ws_119 (by omega), nar1b, nI_1]
theorem lq_308i (R : mjR) (hC : C < 32) {k1 : Nat → Int32 → Int32 → mjH → mjU} {m : Nat} (hm : m < 7) : ∀ (r i n : Nat) (s : mjSt3), i + r = 7 → r < n → MX C s (wmm w m i 0) → ∃ s', L_308_150 R k1 n 97 (nI (49 * C)) (nI m) (nI i) (mjW0 s) = k1 97 (nI (49 * C)) (nI (m + 1)) (mjW0 s') ∧ oW C s s' ∧ MX C s' (clo w (m + 1))
  | r, i, 0, s, e, hr, h => by omega
  | 0, i, n + 1, s, e, hr, h => by
    refine ⟨s, ?_, offG.rf, h.cg (fun x y hx hy => ?_)⟩
    · rw [L308_150]
      unfold b_308_150
      rw [if_pos (show (7 : Int32) ≤ nI i from nI_le (a := 7) (show 7 ≤ i by omega) (by omega)), nI_1]
    · unfold wmm
      rw [if_pos (by omega)]
  | r + 1, i, n + 1, s, e, hr, h => by
    obtain ⟨s1, a1, a2, a3⟩ := lq_308j R hC (k1 := k1) (k2 := L_308_150 R k1 n) hm (show i < 7 by omega) 7 0 mjN s (by omega) (by have := mjN_v; omega) h
    obtain ⟨s', b1, b2', b3⟩ := lq_308i R hC (k1 := k1) hm r (i + 1) n s1 (by omega) (by omega) (a3.cg (fun x y hx hy => by
      unfold wmm
      by_cases g : x < i ∨ (x = i ∧ y < 7)
      · rw [if_pos g, if_pos (by omega)]
      · rw [if_neg g, if_neg (by omega)]))
    refine ⟨s', ?_, a2.tr b2', b3⟩
    rw [← b1, ← a1, L308_150]
    unfold b_308_150
    rw [if_neg (show ¬ (7 : Int32) ≤ nI i from nI_ge (b := 7) (by omega) (by decide))]
    rfl
theorem lq_308m (R : mjR) (hC : C < 32) : ∀ (r m n : Nat) (s : mjSt3), m + r = 7 → r < n → MX C s (clo w m) → ∃ s', L_308_141 R n 97 (nI (49 * C)) (nI m) (mjW0 s) = some (none, mjW0 s') ∧ oW C s s' ∧ MX C s' (clo w 7)
  | r, m, 0, s, e, hr, h => by omega
  | 0, m, n + 1, s, e, hr, h => by
    refine ⟨s, ?_, offG.rf, by rw [show 7 = m by omega]; exact h⟩
    rw [L308_141]
    unfold b_308_141
    rw [if_pos (show (7 : Int32) ≤ nI m from nI_le (a := 7) (show 7 ≤ m by omega) (by omega))]
  | r + 1, m, n + 1, s, e, hr, h => by
    obtain ⟨s1, a1, a2, a3⟩ := lq_308i R hC (k1 := L_308_141 R n) (show m < 7 by omega) 7 0 mjN s (by omega) (by have := mjN_v; omega) (h.cg (fun x y hx hy => by
      unfold wmm
      rw [if_neg (by omega)]))
    obtain ⟨s', b1, b2', b3⟩ := lq_308m R hC r (m + 1) n s1 (by omega) (by omega) a3
    refine ⟨s', ?_, a2.tr b2', b3⟩
    rw [← b1, ← a1, L308_141]
    unfold b_308_141
    rw [if_neg (show ¬ (7 : Int32) ≤ nI m from nI_ge (b := 7) (by omega) (by decide))]
    rfl
end MJA71
