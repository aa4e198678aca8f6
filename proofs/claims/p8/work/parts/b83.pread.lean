/-! ===== feed, fault, state, said, on both ===== -/
section MJB83
variable {i n : Nat} {s s' : mjSt3} {a : Int32}
theorem by_8 (y : Int8) : byR y.toInt32 := by
  have h1 := Int8.le_toInt y
  have h2 := Int8.toInt_lt y
  have e : (y.toInt32).toInt = y.toInt := Int8.toInt_toInt32 y
  have m1 : (-128 : Int32).toInt = -128 := by decide
  have m2 : (127 : Int32).toInt = 127 := by decide
  constructor
  · intro h
    rw [Int32.lt_iff_toInt_lt, e, m1] at h
    omega
  · rw [Int32.le_iff_toInt_le, e, m2]
    omega
theorem by_Y (v sh : Int32) : byR (bY v sh) := by
  unfold bY
  rw [vp_nar_byte]
  exact by_8 _
theorem by_app {l : List Int32} {y : Int32} (h : ∀ x, x ∈ l → byR x) (hy : byR y) : ∀ x, x ∈ l ++ [y] → byR x := fun x hx => by
  rcases List.mem_append.mp hx with e | e
  · exact h x e
  · have : x = y := by simpa using e
    rw [this]
    exact hy
theorem by_20 (a b c e f : Int32) : ∀ x, x ∈ b20 a b c e f → byR x := by
  unfold b20
  repeat (refine by_app ?_ (by_Y _ _))
  exact fun x hx => by cases hx
theorem by_getD {l : List Int32} (h : ∀ x, x ∈ l → byR x) (k : Nat) : byR (l.getD k 0) := by
  rw [List.getD_eq_getElem?_getD]
  cases hk : l[k]? with
  | none => exact ⟨by decide, by decide⟩
  | some x => exact h x (List.mem_of_getElem? hk)
/-- what a call leaves -/
theorem Inv.gen (I : Inv i s) (hB : IBs s') (e0 : s'.2.2 0 = s.2.2 0 ∧ s'.1 0 8 = s.1 0 8) (e97 : ∀ j, j = 9 ∨ j = 10 ∨ (96 ≤ j ∧ j ≤ 106) ∨ j = 116 ∨ j = 118 ∨ j = 119 ∨ j = 126 ∨ j = 127 → s'.1 97 j = s.1 97 j) (er : ∀ h, 100 ≤ h → h ≤ 187 → s'.1 h = s.1 h) (el : ∀ h, s'.2.1 h = s.2.1 h) (ec : ∀ h, (2 ≤ h ∧ h ≤ 57) ∨ (79 ≤ h ∧ h ≤ 96) → s'.1 h = s.1 h) (rc : s'.2.2 82 = s.2.2 82 ∧ s'.2.2 91 = s.2.2 91) : Inv (i + 1) s' := by
  have kz : IZ s → IZ s' := by
    intro ⟨⟨a1, a2⟩, a3, a4, a5, a6⟩
    exact ⟨⟨by rw [e97 96 (by omega)]; exact a1, by rw [ec 82 (by omega)]; exact a2⟩, by rw [ec 82 (by omega)]; exact a3, by rw [ec 79 (by omega)]; exact a4, by rw [ec 83 (by omega)]; exact a5, a6.keep (fun h e => ec h (by omega))⟩
  refine ⟨hB, ?_⟩
  rcases I.2 with ⟨a1, a2, a3⟩ | ⟨T, N, b, p, t, rs, kb, z, tr, cs, G, hR⟩
  · exact Or.inl ⟨by rw [e0.2]; exact a1, by rw [e97 10 (by omega)]; exact a2, kz a3⟩
  · have hp := G.isq
    refine Or.inr ⟨T, N, b, p, t, rs, kb, z, tr, cs, G.keep ⟨e97 9 (by omega), e97 10 (by omega)⟩ ⟨by rw [e0.1], e0.2⟩ (fun J => J.keep (fun x y w => by have := inB_97 w; rw [er x (by omega) (by omega)]) (fun x y _ => by rw [el])) (fun x hx => ec x (by omega)) (fun x _ => el x), ?_⟩
    rcases hR with a3 | ⟨wm, cm, A, R⟩
    · exact Or.inl (kz a3)
    · obtain ⟨w4, ⟨p1, p2, p3, p4⟩, k1, M, Mr, x1, K1, K2⟩ := R
      exact Or.inr ⟨wm, cm, A, w4, ⟨p1, p2, p3, by omega⟩, k1, M.hi (fun h e => ec h (by omega)), Mr.gen (fun j e => e97 j (by omega)) (fun h e => er h (by omega) (by omega)), by rw [rc.1, rc.2]; exact x1, K1.keep (fun h e => ec h (by omega)), K2.gen ⟨e97 126 (by omega), e97 127 (by omega)⟩ (er 181 (by omega) (by omega))⟩
theorem pair_feed2 (I : Inv i s) (a b c e f : Int32) : PairOK (Inv (i + 1)) 202 258 [.int a, .int b, .int c, .int e, .int f] s := by
  obtain ⟨⟨t, h3, t1, t2, hx⟩, hby, hw, hp, h9, hwk⟩ := I.1
  by_cases hl : t + 20 ≤ 3000
  · obtain ⟨s1, e1, l1⟩ := f_feedC (d := 1997) t1 hl a b c e f
    have m1 : s1.1 97 = s.1 97 := l1.2.2.2.1 97 (by decide) (by decide)
    have m2 : s1.1 98 = s.1 98 := l1.2.2.2.1 98 (by decide) (by decide)
    obtain ⟨s2, e2, l2⟩ := f_feedM (d := 1997) (s := s1) (t := t) (by rw [m1]; exact t2) hl a b c e f
    have n0 : s2.1 0 = s1.1 0 := l2.2.2.2.1 0 (by decide) (by decide)
    have n1 : s2.1 1 = s1.1 1 := l2.2.2.2.1 1 (by decide) (by decide)
    have ls : s2.2 = s.2 := l2.2.2.2.2.trans l1.2.2.2.2
    have rr : ∀ q, ¬ q = 0 → ¬ q = 1 → ¬ q = 97 → ¬ q = 98 → s2.1 q = s.1 q := fun q a0 a1 a2 a3 => by rw [l2.2.2.2.1 q a2 a3, l1.2.2.2.1 q a0 a1]
    have r97 : ∀ j, ¬ j = 1 → s2.1 97 j = s.1 97 j := fun j hj => by rw [l2.2.1 j hj, m1]
    have r0 : ∀ j, ¬ j = 1 → s2.1 0 j = s.1 0 j := fun j hj => by rw [n0]; exact l1.2.1 j hj
    refine ⟨_, s1, s2, e1, e2, I.gen ⟨⟨t + 20, hl, by rw [n0, l1.1, b20_len], by rw [l2.1, b20_len], fun i hi => ?_⟩, fun i hi => ?_, by rw [ls]; exact hw, by rw [ls]; exact hp, by rw [r97 9 (by decide)]; exact h9, by rw [ls]; exact hwk⟩ ⟨by rw [ls], r0 8 (by decide)⟩ (fun j hj => r97 j (by omega)) (fun h h1 h2 => rr h (by omega) (by omega) (by omega) (by omega)) (fun h => by rw [ls]) (fun h e => rr h (by omega) (by omega) (by omega) (by omega)) ⟨by rw [ls], by rw [ls]⟩⟩
    · rw [n1, l1.2.2.1 i, l2.2.2.1 i, m2, b20_len]
      by_cases g : t ≤ i ∧ i < t + 20
      · rw [if_pos g, if_pos g]
      · rw [if_neg g, if_neg g]
        exact hx i (by omega)
    · rw [n1, l1.2.2.1 i]
      by_cases g : t ≤ i ∧ i < t + (b20 a b c e f).length
      · rw [if_pos g]
        exact by_getD (by_20 a b c e f) _
      · rw [if_neg g]
        exact hby i hi
  · refine ⟨-1, s, s, ?_, ?_, I.mono (by omega)⟩
    · rw [e_202 (d := 1998)]
      unfold f_202
      unfold b_202_0
      rw [xg_0_1, t1, show nI t + 20 = nI (t + 20) from nI_add t 20, if_neg (show ¬ nI (t + 20) ≤ (3000 : Int32) from nI_ge (a := 3000) (by omega) (by omega))]
    · rw [e_258 (d := 1998)]
      unfold f_258
      unfold b_258_0
      rw [xg_97_1, t2, show nI t + 20 = nI (t + 20) from nI_add t 20, if_neg (show ¬ nI (t + 20) ≤ (3000 : Int32) from nI_ge (a := 3000) (by omega) (by omega))]
theorem Inv.st (I : Inv i s) : I_st s := by
  have kz : IZ s → I_st s := by
    intro ⟨⟨a1, a2⟩, ⟨a3, a4, a5, a6, a7⟩, ⟨a8, a9⟩, ⟨a10, a11⟩, _⟩
    exact ⟨by rw [a1, a2], fun _ => ⟨a3, a4, a5, a6, a9, a8, a10, a11, a7⟩, fun h => absurd a2 h⟩
  rcases I.2 with ⟨_, _, a3⟩ | ⟨T, N, b, p, t, rs, kb, z, tr, cs, G, hR⟩
  · exact kz a3
  · rcases hR with a3 | ⟨wm, cm, A, R⟩
    · exact kz a3
    · obtain ⟨w4, ⟨p1, p2, p3, p4⟩, k1, M, Mr, x1, K1, K2⟩ := R
      obtain ⟨⟨a1, a2, a3, a4⟩, ⟨a5, a6, a7⟩, ⟨a8, a9, a10⟩, _, _⟩ := M.1
      obtain ⟨⟨b1, b2', b3, b4⟩, ⟨b5, b6, b7⟩, ⟨b8, b9, b10⟩, _, _⟩ := Mr.1
      refine ⟨by rw [a1, b1], fun h => ?_, fun _ => ⟨by rw [a2, b2'], by rw [a3, b3], by rw [a4, b4], by rw [a5, b5], by rw [a8, b8], by rw [a9, b9], by rw [a10, b10], by rw [a6, b6], by rw [a7, b7]⟩⟩
      rw [a1] at h
      have := (nI_eq (b := 0) (by omega) (by omega)).mp h
      omega
theorem pair_state2 (I : Inv i s) (a : Int32) : PairOK (Inv (i + 1)) 212 341 [.int a] s := pair_state (I.mono (by omega)) I.st a
theorem Inv.sd (hi : i ≤ 512) (I : Inv i s) : I_said s := by
  have kz : IZ s → I_said s := by
    intro ⟨_, ⟨_, _, _, _, a7⟩, _⟩ k hk h
    rw [a7] at h
    exact absurd h (nI_pos (by omega))
  rcases I.2 with ⟨_, _, a3⟩ | ⟨T, N, b, p, t, rs, kb, z, tr, cs, G, hR⟩
  · exact kz a3
  · rcases hR with a3 | ⟨wm, cm, A, R⟩
    · exact kz a3
    · obtain ⟨w4, ⟨p1, p2, p3, p4⟩, k1, M, Mr, x1, K1, K2⟩ := R
      intro k hk h
      have sl := k1.2.le
      rw [M.1.2.1.2.2] at h
      have hk2 := (nI_ltI (by omega) (by omega)).mp h
      rw [M.1.2.2.2.2 k hk hk2, Mr.1.2.2.2.2 k hk hk2]
theorem pair_said2 (hi : i ≤ 511) (I : Inv i s) (a : Int32) : PairOK (Inv (i + 1)) 213 342 [.int a] s := pair_said (I.mono (by omega)) I.st (I.sd (by omega)) a
/-- fault: it answers -/
theorem pair_fault2 (I : Inv i s) (a : Int32) : PairGo (Inv (i + 1)) 206 336 [.int a] s := by
  have J : Inv (i + 1) s := I.mono (by omega)
  have c : ∃ r, mjF 1999 206 [.ref 0, .int a] (mjW0 s) = some (some (.int r), mjW0 s) := by
    rw [e_206 (d := 1998)]
    unfold f_206
    unfold b_206_0
    by_cases h0 : a = 0
    · rw [if_pos h0, xg_0_9]
      exact ⟨_, rfl⟩
    · rw [if_neg h0]
      by_cases h1 : a = 1
      · rw [if_pos h1, xg_0_10]
        exact ⟨_, rfl⟩
      · rw [if_neg h1]
        exact ⟨_, rfl⟩
  have m : ∃ r, mjF 1999 336 [.ref 97, .int a] (mjW0 s) = some (some (.int r), mjW0 s) := by
    rw [e_336 (d := 1998)]
    unfold f_336
    unfold b_336_0
    by_cases h0 : a = 0
    · rw [if_pos h0, xg_97_59]
      exact ⟨_, rfl⟩
    · rw [if_neg h0]
      by_cases h1 : a = 1
      · rw [if_pos h1, xg_97_60]
        exact ⟨_, rfl⟩
      · rw [if_neg h1]
        exact ⟨_, rfl⟩
  obtain ⟨r1, e1⟩ := c
  obtain ⟨r2, e2⟩ := m
  exact ⟨r1, r2, s, s, e1, e2, J⟩
end MJB83
