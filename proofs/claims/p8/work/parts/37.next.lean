/-! ===== next() ===== -/
def offN (s s' : mjSt3) : Prop := (∀ q, ¬ q = 97 → s'.1 q = s.1 q) ∧ (∀ j, ¬ j = 3 → ¬ j = 4 → ¬ j = 5 → ¬ j = 6 → s'.1 97 j = s.1 97 j) ∧ (∀ q, ¬ q = 97 → s'.2.1 q = s.2.1 q) ∧ (∀ j, ¬ j = 7 → s'.2.1 97 j = s.2.1 97 j) ∧ s'.2.2 = s.2.2
theorem offN.tr {a b c : mjSt3} (h : offN a b) (g : offN b c) : offN a c :=
  ⟨fun q x => (g.1 q x).trans (h.1 q x), fun j x y u v => (g.2.1 j x y u v).trans (h.2.1 j x y u v), fun q x => (g.2.2.1 q x).trans (h.2.2.1 q x), fun j x => (g.2.2.2.1 j x).trans (h.2.2.2.1 j x), g.2.2.2.2.trans h.2.2.2.2⟩
theorem goAt_off (s : mjSt3) (i : Nat) : offN s (goAt s i) := ⟨fun q h => goAt_q s i q h, fun j _ h _ _ => goAt_j s i j h, fun _ _ => rfl, fun _ _ => rfl, rfl⟩
theorem nS_off (s : mjSt3) (i : Nat) (v : Int32) : offN s (nS s i v) := ⟨fun q h => nS_q s i v q h, fun j _ _ h5 h6 => nS_j s i v j h5 h6, fun _ _ => rfl, fun _ _ => rfl, rfl⟩
theorem mS_off (s : mjSt3) (i : Nat) (w : Int64) : offN s (mS s i w) := ⟨fun q h => mS_q s i w q h, fun j _ _ h5 _ => mS_j s i w j h5, fun q h => (by unfold mS; rw [uL_ne _ _ _ _ h]; rfl), fun j h => (by unfold mS; rw [uL_same]; exact if_neg h), rfl⟩
theorem kS_off (s : mjSt3) (a b : Int32) : offN s (kS s a b) := ⟨fun q h => if_neg h, fun j h3 _ _ h6 => kS_j s a b j h3 h6, fun _ _ => rfl, fun _ _ => rfl, rfl⟩
theorem gS_off (s : mjSt3) (a b : Int32) (e : Nat) : offN s (gS s a b e) := ⟨fun q h => gS_q s a b e q h, fun j h3 _ h5 h6 => gS_j s a b e j h3 h5 h6, fun _ _ => rfl, fun _ _ => rfl, rfl⟩
def oS (z : mjSt3) (a : Int32) : mjSt3 := uI z 97 (upd (z.1 97) 3 a)
theorem oS_3 (z : mjSt3) (a : Int32) : (oS z a).1 97 3 = a := by
  unfold oS
  rw [uI_same]
  exact if_pos rfl
theorem oS_j (z : mjSt3) (a : Int32) (j : Nat) (h : ¬ j = 3) : (oS z a).1 97 j = z.1 97 j := by
  unfold oS
  rw [uI_same]
  exact if_neg h
theorem oS_off (s : mjSt3) (a : Int32) : offN s (oS s a) := ⟨fun q h => if_neg h, fun j h3 _ _ _ => oS_j s a j h3, fun _ _ => rfl, fun _ _ => rfl, rfl⟩
theorem p_f {z : mjSt3} {a : Int32} {k : mjH → mjU} : pI (mjW0 z) 97 12 3 a k = k (mjW0 (oS z a)) := xp_97_3
theorem kS_6 (s : mjSt3) (a b : Int32) : (kS s a b).1 97 6 = b := by
  unfold kS
  rw [uI_same]
  exact if_pos rfl
/-- a token of the reference: sort, number, name, end -/
def m1 (ty : Nat → Int32) (kp : Nat → Int64) (n p : Nat) (old : Int32) : Int32 × Int32 × Int64 × Nat :=
  if p < n then
    (if isDb (ty p) = true then (if (scV ty p (n - p) 0 p).2 - p ≤ 9 then 3 else 6, (scV ty p (n - p) 0 p).1, 0, (scV ty p (n - p) 0 p).2)
    else if isLb (ty p) = true then
      (if (scW ty p (n - p) 0 p).2 - p ≤ 10 then (if 90 < (ty p &&& 255) then ((kwF kp (scW ty p (n - p) 0 p).1 16 1 (2, old)).1, (kwF kp (scW ty p (n - p) 0 p).1 16 1 (2, old)).2, (scW ty p (n - p) 0 p).1, (scW ty p (n - p) 0 p).2) else (1, old, (scW ty p (n - p) 0 p).1, (scW ty p (n - p) 0 p).2)) else (6, old, (scW ty p (n - p) 0 p).1, (scW ty p (n - p) 0 p).2))
    else if lk ty n (p + 1) = 61 ∧ ((ty p &&& 255) = 61 ∨ (ty p &&& 255) = 33) then (4, if (ty p &&& 255) = 61 then 257 else 258, 0, p + 2)
    else (if (ty p &&& 255) ∈ sgM then 4 else 6, ty p &&& 255, 0, p + 1))
  else (0, old, 0, n)
/-- the state behind next(): the token t at p -/
def nxS (s s' : mjSt3) (p : Nat) (t : Int32 × Int32 × Int64 × Nat) : Prop := offN s s' ∧ s'.1 97 4 = nI p ∧ s'.1 97 3 = t.1 ∧ s'.1 97 6 = t.2.1 ∧ s'.1 97 5 = nI t.2.2.2 ∧ (t.1 = 1 ∨ t.1 = 2 → s'.2.1 97 7 = t.2.2.1)
theorem x_nxE {d n p : Nat} {s : mjSt3} (hn : n ≤ 3000) (hpn : p ≤ n) (he : s.1 97 2 = nI n) (hb : ∀ i, i < n → byR (s.1 98 i)) : ∃ s', nxE (mjF (d + 2)) (goAt s p) = some (none, mjW0 s') ∧ nxS s s' p (m1 (s.1 98) (s.2.1 99) n p (s.1 97 6)) := by
  have h4 := goAt_4 s p
  have h2 : (goAt s p).1 97 2 = nI n := (goAt_j _ _ _ (by decide)).trans he
  have h6 : (goAt s p).1 97 6 = s.1 97 6 := goAt_j _ _ _ (by decide)
  have hq : (goAt s p).1 98 = s.1 98 := goAt_q _ _ _ (by decide)
  have o0 := goAt_off s p
  generalize goAt s p = z at h4 h2 h6 hq o0 ⊢
  have hbz : ∀ i, i < n → byR (z.1 98 i) := by rw [hq]; exact hb
  have z1_4 : (uI z 97 (upd (z.1 97) 5 (nI p))).1 97 4 = nI p := by
    rw [uI_same]
    exact (if_neg (by decide)).trans h4
  have z1_2 : (uI z 97 (upd (z.1 97) 5 (nI p))).1 97 2 = nI n := by
    rw [uI_same]
    exact (if_neg (by decide)).trans h2
  unfold nxE b_262_10
  rw [if_pos rfl, xg_97_4, h4, xp_97_5, xg_97_4, z1_4, xg_97_2, z1_2]
  by_cases hlt : p < n
  · have l : lk ((uI z 97 (upd (z.1 97) 5 (nI p))).1 98) n p = s.1 98 p &&& 255 := by
      unfold lk
      rw [if_pos hlt, uI_ne _ _ _ _ (by decide), hq]
    have B := hb p hlt
    have dg := by_dg B
    have cd := by_cd B
    rw [if_pos (nI_lt hlt (by omega)), xg_97_4, z1_4, xV_97, x_look (n := n) z1_2 hn (by omega), bI_s, l]
    by_cases hD : isDb (s.1 98 p) = true
    · obtain ⟨g1, g2⟩ := isD_iff.mp (dg.trans hD)
      have e1 : uI (uI z 97 (upd (z.1 97) 5 (nI p))) 97 (upd ((uI z 97 (upd (z.1 97) 5 (nI p))).1 97) 6 0) = nS z p 0 := by
        rw [uI_same, uI_uI]; rfl
      rw [if_neg g1, if_neg g2, xp_97_6, e1, lq_188 hn h2 h4 hbz (n - p) p mjN 0 (by omega) (Nat.le_refl p) (by unfold mjN; omega), hq]
      have r := scD_le (s.1 98) (n - p) 0 p
      rw [← scV_end (s.1 98) p (n - p) 0 0 p] at r
      generalize hv : scV (s.1 98) p (n - p) 0 p = v at r ⊢
      unfold b_262_264 b_262_285
      rw [xg_97_5, nS_5, xg_97_4, nS_j _ _ _ _ (by decide) (by decide), h4, pk_sub r.1, p_f, p_f]
      have t : m1 (s.1 98) (s.2.1 99) n p (s.1 97 6) = (if v.2 - p ≤ 9 then 3 else 6, v.1, 0, v.2) := by
        unfold m1
        rw [if_pos hlt, if_pos hD, hv]
      have fin : ∀ a : Int32, a = (if v.2 - p ≤ 9 then 3 else 6) → ∃ s', (some (none, mjW0 (oS (nS z v.2 v.1) a)) : mjU) = some (none, mjW0 s') ∧ nxS s s' p (if v.2 - p ≤ 9 then 3 else 6, v.1, 0, v.2) := by
        intro a ha
        refine ⟨_, rfl, (o0.tr (nS_off _ _ _)).tr (oS_off _ _), ?_, ?_, ?_, ?_, ?_⟩
        · rw [oS_j _ _ _ (by decide), nS_j _ _ _ _ (by decide) (by decide), h4]
        · rw [oS_3, ha]
        · rw [oS_j _ _ _ (by decide), nS_6]
        · rw [oS_j _ _ _ (by decide), nS_5]
        · intro h
          exfalso
          dsimp only at h
          by_cases g : v.2 - p ≤ 9
          · rw [if_pos g] at h; exact absurd h (by decide)
          · rw [if_neg g] at h; exact absurd h (by decide)
      rw [t]
      by_cases g : v.2 - p ≤ 9
      · rw [if_pos (show nI (v.2 - p) ≤ (9 : Int32) from nI_le (b := 9) g (by decide))]
        exact fin 3 (by rw [if_pos g])
      · rw [if_neg (show ¬ nI (v.2 - p) ≤ (9 : Int32) from nI_ge (a := 9) (by omega) (by omega))]
        exact fin 6 (by rw [if_neg g])
    · have both : ∀ X Y : mjU, (if (s.1 98 p &&& 255) < (48 : Int32) then X else if (57 : Int32) < (s.1 98 p &&& 255) then X else Y) = X := by
        intro X Y
        by_cases g1 : (s.1 98 p &&& 255) < 48
        · rw [if_pos g1]
        · have g2 : 57 < (s.1 98 p &&& 255) := Classical.byContradiction (fun e => hD (dg.symm.trans (isD_iff.mpr ⟨g1, e⟩)))
          rw [if_neg g1, if_pos g2]
      rw [both]
      unfold b_262_291
      rw [x_code, bI_s]
      by_cases hLt : isLb (s.1 98 p) = true
      · rw [if_neg (fun e => (cd.mp e) (Or.inl hLt)), xp_97_7]
        have e1 : uL (uI z 97 (upd (z.1 97) 5 (nI p))) 97 (vp_updL ((uI z 97 (upd (z.1 97) 5 (nI p))).2.1 97) 7 0) = mS z p 0 := rfl
        rw [e1, lq_303 hn h2 h4 hbz (n - p) p mjN 0 (by omega) (Nat.le_refl p) (by unfold mjN; omega), hq]
        have om := o0.tr (mS_off z (scW (s.1 98) p (n - p) 0 p).2 (scW (s.1 98) p (n - p) 0 p).1)
        generalize hv : scW (s.1 98) p (n - p) 0 p = v at om ⊢
        have m6 : (mS z v.2 v.1).1 97 6 = s.1 97 6 := (mS_j _ _ _ _ (by decide)).trans h6
        have m4 : (mS z v.2 v.1).1 97 4 = nI p := (mS_j _ _ _ _ (by decide)).trans h4
        have mk : (mS z v.2 v.1).2.1 99 = s.2.1 99 := om.2.2.1 99 (by decide)
        have m5 := mS_5 z v.2 v.1
        have m7 := mS_7 z v.2 v.1
        generalize mS z v.2 v.1 = y at om m6 m4 mk m5 m7 ⊢
        have plain : ∀ a : Int32, ¬ a = 2 → ∃ s', b_262_400 (mjF (d + 2)) 97 97 a (mjW0 y) = some (none, mjW0 s') ∧ nxS s s' p (a, s.1 97 6, v.1, v.2) := by
          intro a ha
          refine ⟨oS y a, ?_, om.tr (oS_off _ _), ?_, ?_, ?_, ?_, ?_⟩
          · unfold b_262_400
            rw [p_f, xg_97_3, oS_3, if_neg ha]
          · rw [oS_j _ _ _ (by decide), m4]
          · rw [oS_3]
          · rw [oS_j _ _ _ (by decide), m6]
          · rw [oS_j _ _ _ (by decide), m5]
          · intro _
            exact m7
        have t : m1 (s.1 98) (s.2.1 99) n p (s.1 97 6) = if v.2 - p ≤ 10 then (if 90 < (s.1 98 p &&& 255) then ((kwF (s.2.1 99) v.1 16 1 (2, s.1 97 6)).1, (kwF (s.2.1 99) v.1 16 1 (2, s.1 97 6)).2, v.1, v.2) else (1, s.1 97 6, v.1, v.2)) else (6, s.1 97 6, v.1, v.2) := by
          unfold m1
          rw [if_pos hlt, if_neg hD, if_pos hLt, hv]
        rw [t]
        unfold nmE
        by_cases g : v.2 - p ≤ 10
        · rw [if_pos g, if_pos g]
          by_cases g9 : (90 : Int32) < (s.1 98 p &&& 255)
          · rw [if_pos g9, if_pos g9]
            refine ⟨kS (oS y 2) (kwF (s.2.1 99) v.1 16 1 (2, s.1 97 6)).1 (kwF (s.2.1 99) v.1 16 1 (2, s.1 97 6)).2, ?_, (om.tr (oS_off _ _)).tr (kS_off _ _ _), ?_, ?_, ?_, ?_, ?_⟩
            · unfold b_262_400
              have o2 : (oS y 2).2 = y.2 := rfl
              rw [p_f, xg_97_3, oS_3, if_pos rfl, xV_97, x_kept, bN_s, oS_3, oS_j _ _ _ (by decide), o2, mk, m7, m6]
            · rw [kS_j _ _ _ _ (by decide) (by decide), oS_j _ _ _ (by decide), m4]
            · rw [kS_3]
            · rw [kS_6]
            · rw [kS_j _ _ _ _ (by decide) (by decide), oS_j _ _ _ (by decide), m5]
            · intro _
              exact m7
          · rw [if_neg g9, if_neg g9]
            exact plain 1 (by decide)
        · rw [if_neg g, if_neg g]
          exact plain 6 (by decide)
      · rw [if_pos (cd.mpr (fun e => e.elim hLt hD)), xV_97, x_msign hn z1_2 z1_4 hlt, bN_s, uI_ne _ _ _ _ (by decide), hq]
        have oz : offN s (uI z 97 (upd (z.1 97) 5 (nI p))) := o0.tr ⟨fun q h => if_neg h, fun j _ _ h _ => (by rw [uI_same]; exact if_neg h), fun _ _ => rfl, fun _ _ => rfl, rfl⟩
        have t : m1 (s.1 98) (s.2.1 99) n p (s.1 97 6) = if lk (s.1 98) n (p + 1) = 61 ∧ ((s.1 98 p &&& 255) = 61 ∨ (s.1 98 p &&& 255) = 33) then (4, if (s.1 98 p &&& 255) = 61 then 257 else 258, 0, p + 2) else (if (s.1 98 p &&& 255) ∈ sgM then 4 else 6, s.1 98 p &&& 255, 0, p + 1) := by
          unfold m1
          rw [if_pos hlt, if_neg hD, if_neg hLt]
        rw [t]
        by_cases g : lk (s.1 98) n (p + 1) = 61 ∧ ((s.1 98 p &&& 255) = 61 ∨ (s.1 98 p &&& 255) = 33)
        · rw [if_pos g, if_pos g]
          refine ⟨_, rfl, oz.tr (gS_off _ _ _ _), ?_, gS_3 _ _ _ _, gS_6 _ _ _ _, gS_5 _ _ _ _, fun h => absurd h (show ¬ ((4 : Int32) = 1 ∨ (4 : Int32) = 2) by decide)⟩
          rw [gS_j _ _ _ _ _ (by decide) (by decide) (by decide), z1_4]
        · rw [if_neg g, if_neg g]
          refine ⟨_, rfl, oz.tr (gS_off _ _ _ _), ?_, gS_3 _ _ _ _, gS_6 _ _ _ _, gS_5 _ _ _ _, ?_⟩
          · rw [gS_j _ _ _ _ _ (by decide) (by decide) (by decide), z1_4]
          · intro h
            exfalso
            dsimp only at h
            by_cases gg : (s.1 98 p &&& 255) ∈ sgM
            · rw [if_pos gg] at h; exact absurd h (by decide)
            · rw [if_neg gg] at h; exact absurd h (by decide)
  · have e : p = n := by omega
    subst e
    have t : m1 (s.1 98) (s.2.1 99) p p (s.1 97 6) = (0, s.1 97 6, 0, p) := by
      unfold m1
      exact if_neg hlt
    rw [if_neg (nI_nlt (Nat.le_refl p) (by omega)), t, xp_97_3, uI_same, uI_uI, xg_97_2]
    have y2 : (uI z 97 (upd (upd (z.1 97) 5 (nI p)) 3 0)).1 97 2 = nI p := by
      rw [uI_same]
      exact (if_neg (by decide)).trans ((if_neg (by decide)).trans h2)
    rw [y2, xp_97_4, uI_same, uI_uI, xg_97_2]
    have y3 : (uI z 97 (upd (upd (upd (z.1 97) 5 (nI p)) 3 0) 4 (nI p))).1 97 2 = nI p := by
      rw [uI_same]
      exact (if_neg (by decide)).trans ((if_neg (by decide)).trans ((if_neg (by decide)).trans h2))
    rw [y3, xp_97_5, uI_same, uI_uI]
    refine ⟨_, rfl, o0.tr ⟨fun q h => if_neg h, fun j x3 x4 x5 _ => ?_, fun _ _ => rfl, fun _ _ => rfl, rfl⟩, ?_, ?_, ?_, ?_, fun h => absurd h (show ¬ ((0 : Int32) = 1 ∨ (0 : Int32) = 2) by decide)⟩
    · rw [uI_same]
      exact (if_neg x5).trans ((if_neg x4).trans ((if_neg x3).trans (if_neg x5)))
    · rw [uI_same]
      exact (if_neg (by decide)).trans (if_pos rfl)
    · rw [uI_same]
      exact (if_neg (by decide)).trans ((if_neg (by decide)).trans (if_pos rfl))
    · rw [uI_same]
      exact ((if_neg (by decide)).trans ((if_neg (by decide)).trans ((if_neg (by decide)).trans (if_neg (by decide))))).trans h6
    · rw [uI_same]
      exact if_pos rfl
theorem x_next {d n b : Nat} {s : mjSt3} (hn : n ≤ 3000) (he : s.1 97 2 = nI n) (h5 : s.1 97 5 = nI b) (hbn : b ≤ n) (hb : ∀ i, i < n → byR (s.1 98 i)) : ∃ s', mjF (d + 3) 262 [.ref 97] (mjW0 s) = some (none, mjW0 s') ∧ nxS s s' (skB (s.1 98) (n - b) false b) (m1 (s.1 98) (s.2.1 99) n (skB (s.1 98) (n - b) false b) (s.1 97 6)) := by
  have r := skB_le (s.1 98) (n - b) false b
  obtain ⟨s', e1, e2⟩ := x_nxE (d := d) (p := skB (s.1 98) (n - b) false b) hn (by omega) he hb
  refine ⟨s', ?_, e2⟩
  rw [e_262]
  unfold f_262
  unfold b_262_0
  have e4 : ∀ k : mjH → mjU, pI (mjW0 s) 97 12 4 (nI b) k = k (mjW0 (goAt s b)) := fun k => xp_97_4
  rw [xg_97_5, h5, e4, lq_10 hn he hb (n - b) (n - b) b mjN (Nat.le_refl _) (by omega) (by unfold mjN; omega)]
  exact e1
