/-! ===== the reference's judge: knows, own NAMES ===== -/
section MJA72
variable {T : TT} {d N b c n C : Nat} {ks : List Nat} {L : List CD} {s s' : mjSt3}
/-- knows: the table of CLASS c -/
theorem x_308 (J : RJ T N b ks L s) (hc : c < L.length) (I : ∀ i, i < inL L c → s.1 117 (8 * (16 * b + c) + i) = nI (ipT T L c i).1 ∧ s.1 118 (8 * (16 * b + c) + i) = nI (ipT T L c i).2) : ∃ s', mjF (d + 1) 308 [.ref 97, .int (nI (16 * b + c))] (mjW0 s) = some (none, mjW0 s') ∧ oW (16 * b + c) s s' ∧ ∀ a, a < 7 → ∀ e, e < 7 → s'.1 119 (49 * (16 * b + c) + 7 * rwR a + rwR e) = b2 (knT T L c a e) := by
  have hb := J.b1
  have h16 := J.len
  have hn := J.2.2.2.2.2.1
  have H := J.hd hc
  have n5 : nmL L c ≤ 5 := H.2.2.2.2.2.2.2.1
  have i8 : inL L c ≤ 8 := H.2.2.2.2.2.2.2.2
  have hC : 16 * b + c < 32 := by omega
  have ipl : ∀ x, (ipT T L c x).1 < 5 ∧ (ipT T L c x).2 < 5 := fun x => by have := ip_lt hn hc x; omega
  obtain ⟨s1, m1, a1, a2, a3⟩ := lq_308a (mjF d) hC 49 0 mjN s (by omega) (by have := mjN_v; omega) (fun x hx => by omega)
  have M1 : MX (16 * b + c) s1 (fun i j => decide (i = j) || decide (j = 6)) := fun i hi j hj => by
    have := a3 (7 * i + j) (by omega)
    rw [show 49 * (16 * b + c) + (7 * i + j) = 49 * (16 * b + c) + 7 * i + j by omega, show (7 * i + j) / 7 = i by omega, show (7 * i + j) % 7 = j by omega] at this
    exact this
  have M2 := M1.st (x := 5) (y := 0) (by omega) (by omega)
  obtain ⟨s2, h2⟩ : ∃ z, z = uI s1 119 (upd (s1.1 119) (49 * (16 * b + c) + 7 * 5 + 0) 1) := ⟨_, rfl⟩
  rw [← h2] at M2
  have o2 : oW (16 * b + c) s s2 := a2.tr (by rw [h2]; exact offG.w ⟨rfl, by omega, by omega⟩)
  have r2 : ∀ x, ¬ x = 119 → s2.1 x = s.1 x := fun x hx => funext fun j => o2.1 x j (fun e => hx e.1)
  obtain ⟨s3, b1, b2', b3⟩ := lq_308b (w := fun i j => (decide (i = j) || decide (j = 6)) || (decide (i = 5) && decide (j = 0))) (mjF d) hC n5 (nmL L c) 0 mjN s2 (by omega) (by have := mjN_v; omega) (by rw [r2 104 (by decide)]; exact H.2.2.1.1) (M2.cg (fun i j _ _ => by simp))
  have o3 : oW (16 * b + c) s s3 := o2.tr b2'
  have r3 : ∀ x, ¬ x = 119 → s3.1 x = s.1 x := fun x hx => funext fun j => o3.1 x j (fun e => hx e.1)
  obtain ⟨s4, c1, c2, c3⟩ := lq_308c (w := fun i j => (decide (i = j) || decide (j = 6)) || (decide (i = 5) && decide (j = 0)) || (decide (i = 0) && decide (j < nmL L c))) (mjF d) hC (iN := inL L c) (ip := ipT T L c) i8 (fun x _ => by have := ipl x; omega) (inL L c) 0 mjN s3 (by omega) (by have := mjN_v; omega) (by rw [r3 106 (by decide)]; exact H.2.2.2.2.2.1.1) (fun x hx => by rw [r3 117 (by decide), r3 118 (by decide)]; exact I x hx) (b3.cg (fun i j _ _ => (Bool.or_false _).symm))
  obtain ⟨s5, d1, d2, d3⟩ := lq_308m (mjF d) hC 7 0 mjN s4 (by omega) (by have := mjN_v; omega) (w := fun i j => (decide (i = j) || decide (j = 6)) || (decide (i = 5) && decide (j = 0)) || (decide (i = 0) && decide (j < nmL L c)) || anyB (fun x => decide (ipT T L c x = (i, j))) (inL L c)) c3
  refine ⟨s5, ?_, o3.tr (c2.tr d2), fun a ha e he => ?_⟩
  · rw [e_308]
    unfold f_308 b_308_0
    rw [show (49 : Int32) * nI (16 * b + c) = nI (49 * (16 * b + c)) by rw [show (49 : Int32) = nI 49 from rfl, nI_mul], show (0 : Int32) = nI 0 from rfl, a1]
    unfold b_308_7
    rw [if_pos (show (49 : Int32) ≤ nI 49 from Int32.le_refl _), xg_97_30, show nI (49 * (16 * b + c)) + 35 = nI (49 * (16 * b + c) + 7 * 5 + 0) by rw [show (35 : Int32) = nI 35 from rfl, nI_ad], ws_119 (by omega), nar1b, ← h2, show (0 : Int32) = nI 0 from rfl, b1]
    exact c1.trans d1
  · rw [d3 (rwR a) (rwR_lt ha) (rwR e) (rwR_lt he)]
    unfold knT
    rw [clo_rw (w := kn0 (nmL L c) (inL L c) (ipT T L c)) (fun x y hx hy => ?_) ha he]
    have rx := rwR_lt hx
    have t1 : ∀ x, x < 7 → ∀ y, y < 7 → decide (rwR x = rwR y) = decide (x = y) := by decide
    have t2 : ∀ y, y < 7 → decide (rwR y = 6) = decide (y = 5) := by decide
    have t3 : ∀ x, x < 7 → decide (rwR x = 5) = decide (x = 6) := by decide
    have t4 : ∀ x, x < 7 → decide (rwR x = 0) = decide (x = 0) := by decide
    have t5 : ∀ m, m < 6 → ∀ y, y < 7 → decide (rwR y < m) = decide (y < m) := by decide
    have t6 : ∀ z, z < 5 → ∀ x, x < 7 → decide (z = rwR x) = decide (z = x) := by decide
    have t7 : ∀ j, decide (ipT T L c j = (rwR x, rwR y)) = decide (ipT T L c j = (x, y)) := by
      intro j
      have i1 := t6 _ (ipl j).1 x hx
      have i2 := t6 _ (ipl j).2 y hy
      rw [decide_eq_decide] at i1 i2 ⊢
      constructor
      · intro h
        have h1 := congrArg Prod.fst h
        have h2 := congrArg Prod.snd h
        exact Prod.ext (i1.mp h1) (i2.mp h2)
      · intro h
        have h1 := congrArg Prod.fst h
        have h2 := congrArg Prod.snd h
        exact Prod.ext (i1.mpr h1) (i2.mpr h2)
    unfold kn0
    try dsimp only
    rw [t1 x hx y hy, t2 y hy, t3 x hx, t4 y hy, t4 x hx, t5 (nmL L c) (by omega) y hy, funext t7]
/-- the loop over earlier CLASSES: two of one name -/
theorem L300_2 (R : mjR) (n a : Nat) (b e : Int32) (hp : mjH) : L_300_2 R (n + 1) a b e hp = b_300_2 R (L_300_2 R n) a b e hp := rfl
theorem L300_42 (R : mjR) (n a : Nat) (b e : Int32) (hp : mjH) : L_300_42 R (n + 1) a b e hp = b_300_42 R (L_300_42 R n) a b e hp := rfl
theorem L300_55 (R : mjR) (k : Nat → Int32 → Int32 → mjH → mjU) (n a : Nat) (b e f : Int32) (hp : mjH) : L_300_55 R k (n + 1) a b e f hp = b_300_55 R k (L_300_55 R k n) a b e f hp := rfl
theorem o61.GRo {P : Prop} (g : GR s) (o : o61 s s') (b : bR0 s') : (gR0 s' ↔ gR0 s ∧ P ∧ False) := ⟨fun x => absurd x b.ng, fun x => x.2.2.elim⟩
theorem lq_300c (hc : c < L.length) {i : Nat} (hi : i < nmL L c) {k42 : Nat → Int32 → Int32 → mjH → mjU} : ∀ (r j m : Nat) (s : mjSt3), j + r = i → r < m → RJ T N b ks L s → GR s → ∃ s', L_300_55 (mjF (d + 1)) k42 m 97 (nI (16 * b + c)) (nI i) (nI j) (mjW0 s) = k42 97 (nI (16 * b + c)) (nI (i + 1)) (mjW0 s') ∧ o61 s s' ∧ GR s' ∧ (gR0 s' ↔ gR0 s ∧ ∀ x, j ≤ x → x < i → ¬ kyT T ((hC L c).1 + 2 + 2 * x) = kyT T ((hC L c).1 + 2 + 2 * i))
  | r, j, 0, s, e, hr, J, g => by omega
  | 0, j, m + 1, s, e, hr, J, g => by
    refine ⟨s, ?_, offG.rf, g, ⟨fun x => ⟨x, fun y h1 h2 => by omega⟩, fun x => x.1⟩⟩
    rw [L300_55]
    unfold b_300_55
    rw [if_pos (show nI i ≤ nI j by rw [show i = j by omega]; exact Int32.le_refl _), nI_1]
  | r + 1, j, m + 1, s, e, hr, J, g => by
    have hb := J.b1
    have h16 := J.len
    have H := J.hd hc
    have n5 : nmL L c ≤ 5 := H.2.2.2.2.2.2.2.1
    have v1 : s.2.1 111 (5 * (16 * b + c) + i) = kyT T ((hC L c).1 + 2 + 2 * i) := (H.2.2.1.2 i hi).1
    have v2 : s.2.1 111 (5 * (16 * b + c) + j) = kyT T ((hC L c).1 + 2 + 2 * j) := (H.2.2.1.2 j (show j < (hC L c).2.1 by unfold nmL at hi; omega)).1
    rw [L300_55]
    unfold b_300_55 b_300_101
    rw [if_neg (show ¬ nI i ≤ nI j from nI_ge (by omega) (by omega)), xg_97_22, i5m, wa_111 (by omega), v1, xg_97_22, i5m, wa_111 (by omega), v2, nI_1]
    by_cases q : kyT T ((hC L c).1 + 2 + 2 * i) = kyT T ((hC L c).1 + 2 + 2 * j)
    · rw [if_pos ((lg_cmp_eq _ _).mpr q), xg_97_23, wa_112 (by omega), xV_97]
      obtain ⟨z, a1, a2, a3⟩ := x_268 (d := d) g (a := 4) (by decide) (s.1 112 (5 * (16 * b + c) + i))
      rw [a1, bN_s]
      obtain ⟨s', b1, b2', b3, b4⟩ := lq_300c hc hi (k42 := k42) r (j + 1) m z (by omega) (by omega) (o61.J a2 J) (Or.inr a3)
      exact ⟨s', b1, a2.tr b2', b3, ⟨fun x => absurd (b4.mp x).1 a3.ng, fun x => absurd q.symm (x.2 j (Nat.le_refl _) (by omega))⟩⟩
    · rw [if_neg (fun x => q ((lg_cmp_eq _ _).mp x))]
      obtain ⟨s', b1, b2', b3, b4⟩ := lq_300c hc hi (k42 := k42) r (j + 1) m s (by omega) (by omega) J g
      refine ⟨s', b1, b2', b3, b4.trans ⟨fun x => ⟨x.1, fun y h1 h2 => ?_⟩, fun x => ⟨x.1, fun y h1 h2 => x.2 y (by omega) h2⟩⟩⟩
      by_cases e' : y = j
      · rw [e']; exact fun z => q z.symm
      · exact x.2 y (by omega) h2
theorem lq_300b (hc : c < L.length) : ∀ (r i m : Nat) (s : mjSt3), i + r = nmL L c → r < m → RJ T N b ks L s → GR s → ∃ s', L_300_42 (mjF (d + 1)) m 97 (nI (16 * b + c)) (nI i) (mjW0 s) = some (none, mjW0 s') ∧ o61 s s' ∧ GR s' ∧ (gR0 s' ↔ gR0 s ∧ ∀ a, i ≤ a → a < nmL L c → ∀ x, x < a → ¬ kyT T ((hC L c).1 + 2 + 2 * x) = kyT T ((hC L c).1 + 2 + 2 * a))
  | r, i, 0, s, e, hr, J, g => by omega
  | 0, i, m + 1, s, e, hr, J, g => by
    have hb := J.b1
    have h16 := J.len
    have H := J.hd hc
    have n5 : nmL L c ≤ 5 := H.2.2.2.2.2.2.2.1
    refine ⟨s, ?_, offG.rf, g, ⟨fun x => ⟨x, fun y h1 h2 => by omega⟩, fun x => x.1⟩⟩
    rw [L300_42]
    unfold b_300_42
    rw [xg_97_15, wa_104 (by omega), show s.1 104 (16 * b + c) = nI (nmL L c) from H.2.2.1.1, if_pos (nI_le (by omega) (by omega))]
  | r + 1, i, m + 1, s, e, hr, J, g => by
    have hb := J.b1
    have h16 := J.len
    have H := J.hd hc
    have n5 : nmL L c ≤ 5 := H.2.2.2.2.2.2.2.1
    obtain ⟨s1, a1, a2, a3, a4⟩ := lq_300c (d := d) hc (show i < nmL L c by omega) (k42 := L_300_42 (mjF (d + 1)) m) i 0 mjN s (by omega) (by have := mjN_v; omega) J g
    obtain ⟨s', b1, b2', b3, b4⟩ := lq_300b hc r (i + 1) m s1 (by omega) (by omega) (o61.J a2 J) a3
    refine ⟨s', ?_, a2.tr b2', b3, ?_⟩
    · rw [← b1, ← a1, L300_42]
      unfold b_300_42
      rw [xg_97_15, wa_104 (by omega), show s.1 104 (16 * b + c) = nI (nmL L c) from H.2.2.1.1, if_neg (nI_ge (by omega) (by omega))]
      rfl
    · rw [b4, a4]
      constructor
      · intro ⟨⟨x1, x2⟩, x3⟩
        refine ⟨x1, fun a h1 h2 x hx => ?_⟩
        by_cases e' : a = i
        · subst e'; exact x2 x (Nat.zero_le _) hx
        · exact x3 a (by omega) h2 x hx
      · intro ⟨x1, x2⟩
        exact ⟨⟨x1, fun x _ hx => x2 i (Nat.le_refl _) (by omega) x hx⟩, fun a h1 h2 x hx => x2 a (by omega) h2 x hx⟩
theorem lq_300a (hc : c < L.length) : ∀ (r j m : Nat) (s : mjSt3), j + r = c → r < m → RJ T N b ks L s → GR s → ∃ s', L_300_2 (mjF (d + 1)) m 97 (nI (16 * b + c)) (nI (16 * b + j)) (mjW0 s) = some (none, mjW0 s') ∧ o61 s s' ∧ GR s' ∧ (gR0 s' ↔ gR0 s ∧ (∀ x, j ≤ x → x < c → ¬ kyT T (hC L x).1 = kyT T (hC L c).1) ∧ ∀ a, a < nmL L c → ∀ x, x < a → ¬ kyT T ((hC L c).1 + 2 + 2 * x) = kyT T ((hC L c).1 + 2 + 2 * a))
  | r, j, 0, s, e, hr, J, g => by omega
  | 0, j, m + 1, s, e, hr, J, g => by
    have h16 := J.len
    have n5 : nmL L c ≤ 5 := (J.hd hc).2.2.2.2.2.2.2.1
    obtain ⟨s', b1, b2', b3, b4⟩ := lq_300b (d := d) hc (nmL L c) 0 mjN s (by omega) (by have := mjN_v; omega) J g
    refine ⟨s', ?_, b2', b3, b4.trans ⟨fun x => ⟨x.1, fun y h1 h2 => by omega, fun a ha => x.2 a (Nat.zero_le _) ha⟩, fun x => ⟨x.1, fun a _ ha => x.2.2 a ha⟩⟩⟩
    rw [← b1, L300_2]
    unfold b_300_2
    rw [if_pos (show nI (16 * b + c) ≤ nI (16 * b + j) by rw [show c = j by omega]; exact Int32.le_refl _)]
    rfl
  | r + 1, j, m + 1, s, e, hr, J, g => by
    have hb := J.b1
    have h16 := J.len
    have v1 : s.2.1 101 (16 * b + j) = kyT T (hC L j).1 := (J.hd (show j < L.length by omega)).1
    have v2 : s.2.1 101 (16 * b + c) = kyT T (hC L c).1 := (J.hd hc).1
    rw [L300_2]
    unfold b_300_2 b_300_34
    rw [if_neg (show ¬ nI (16 * b + c) ≤ nI (16 * b + j) from nI_ge (by omega) (by omega)), xg_97_12, wa_101 (by omega), v1, xg_97_12, wa_101 (by omega), v2, nI_1, show 16 * b + j + 1 = 16 * b + (j + 1) by omega]
    by_cases q : kyT T (hC L j).1 = kyT T (hC L c).1
    · rw [if_pos ((lg_cmp_eq _ _).mpr q), xg_97_13, wa_102 (by omega), xV_97]
      obtain ⟨z, a1, a2, a3⟩ := x_268 (d := d) g (a := 4) (by decide) (s.1 102 (16 * b + c))
      rw [a1, bN_s]
      obtain ⟨s', b1, b2', b3, b4⟩ := lq_300a hc r (j + 1) m z (by omega) (by omega) (o61.J a2 J) (Or.inr a3)
      exact ⟨s', b1, a2.tr b2', b3, ⟨fun x => absurd (b4.mp x).1 a3.ng, fun x => absurd q (x.2.1 j (Nat.le_refl _) (by omega))⟩⟩
    · rw [if_neg (fun x => q ((lg_cmp_eq _ _).mp x))]
      obtain ⟨s', b1, b2', b3, b4⟩ := lq_300a hc r (j + 1) m s (by omega) (by omega) J g
      refine ⟨s', b1, b2', b3, b4.trans ⟨fun x => ⟨x.1, fun y h1 h2 => ?_, x.2.2⟩, fun x => ⟨x.1, fun y h1 h2 => x.2.1 y (by omega) h2, x.2.2⟩⟩⟩
      by_cases e' : y = j
      · rw [e']; exact q
      · exact x.2.1 y (by omega) h2
/-- judgeOwnNames -/
theorem x_300 (J : RJ T N b ks L s) (hc : c < L.length) (g : GR s) : ∃ s', mjF (d + 2) 300 [.ref 97, .int (nI (16 * b + c)), .int (nI (16 * b))] (mjW0 s) = some (none, mjW0 s') ∧ o61 s s' ∧ GR s' ∧ (gR0 s' ↔ gR0 s ∧ OKa T L c) := by
  have h16 := J.len
  obtain ⟨s', b1, b2', b3, b4⟩ := lq_300a (d := d) hc c 0 mjN s (by omega) (by have := mjN_v; omega) J g
  refine ⟨s', ?_, b2', b3, b4.trans ⟨fun x => ⟨x.1, fun y hy => x.2.1 y (Nat.zero_le _) hy, x.2.2⟩, fun x => ⟨x.1, fun y _ hy => x.2.1 y hy, x.2.2⟩⟩⟩
  rw [e_300]
  unfold f_300 b_300_0
  exact b1
end MJA72
