/-! ===== object, owner, field, isInside, on both ===== -/
section MJB87
variable {T : TT} {d N b kb q i o c m n wm cm : Nat} {t : PT} {L : List CD} {rs : List RcM} {z : PB} {tr : Bool} {cs : Nat → Nat} {H : HEAP} {A : AMS} {s : mjSt3} {a v : Int32}
theorem IRN.obj (G : IPG T N b q t rs kb z tr cs s) (R : IRN i T b q t rs z tr cs wm cm A s) (a : Int32) : ((∀ d, mjF (d + 1) 43 [.ref 79, .int a] (mjW0 s) = some (some (.int 0), mjW0 s)) ∧ ∀ d, mjF (d + 1) 246 [.ref 97, .int a] (mjW0 s) = some (some (.int 0), mjW0 s)) ∨ ∃ o, a = nI o ∧ 1 ≤ o ∧ o ≤ A.1.1 ∧ (∀ d, mjF (d + 1) 43 [.ref 79, .int a] (mjW0 s) = some (some (.int 1), mjW0 s)) ∧ ∀ d, mjF (d + 1) 246 [.ref 97, .int a] (mjW0 s) = some (some (.int 1), mjW0 s) := by
  have B := R.hb G
  have b1 := B.1
  have b2' := B.2
  have c79 : s.1 79 2 = nI A.1.1 := R.2.2.2.1.1.2.2.1.2.1
  have r103 : s.1 97 103 = nI A.1.1 := R.2.2.2.2.1.1.2.2.1.2.1
  have r96 : s.1 97 96 = nI A.2.2.2.2.2.2.2.2.1 := R.2.2.2.2.1.1.1.1
  have p1 := R.2.1.1
  have p3 := R.2.1.2.1
  have n96 : ¬ s.1 97 96 ≤ 0 := by rw [r96]; exact nI_nle (by omega) (by omega)
  by_cases h : a ≤ 0 ∨ nI A.1.1 < a
  · refine Or.inl ⟨fun d => ?_, fun d => ?_⟩
    · rw [x_43g, c79, if_pos h]
    · rw [x_246g, r103, if_pos (h.elim (fun x => Or.inr (Or.inl (lt_1.mpr x))) (fun x => Or.inr (Or.inr x)))]
  · have h0 : ¬ a ≤ 0 := fun x => h (Or.inl x)
    have h1 : ¬ nI A.1.1 < a := fun x => h (Or.inr x)
    obtain ⟨o, o31, eo⟩ := nI_of (x := a) (fun x => h0 (Int32.le_of_lt x))
    have ol : o ≤ A.1.1 := by
      rw [eo] at h1
      exact (nI_leI (by omega) (by omega)).mp (Int32.not_lt.mp h1)
    have o1 : 1 ≤ o := by
      by_cases g : o = 0
      · rw [eo, g] at h0
        exact absurd (show nI 0 ≤ (0 : Int32) by decide) h0
      · omega
    refine Or.inr ⟨o, eo, o1, ol, fun d => ?_, fun d => ?_⟩
    · rw [x_43g, c79, if_neg h]
    · rw [x_246g, r103, if_neg (fun x => x.elim n96 (fun x => x.elim (fun y => h0 (lt_1.mp y)) h1))]
/-- what is to be known of an OBJECT -/
theorem IRN.at (G : IPG T N b q t rs kb z tr cs s) (R : IRN i T b q t rs z tr cs wm cm A s) : HPc T t.1 A.1 s ∧ HPr T t.1 b A.1 s ∧ HOK T t.1 A.1 ∧ s.1 79 2 = nI A.1.1 ∧ (∀ o, 1 ≤ o → o ≤ A.1.1 → (A.1.2 o).1 < t.1.length ∧ 1 ≤ nmL t.1 (A.1.2 o).1 ∧ nmL t.1 (A.1.2 o).1 ≤ 5) ∧ t.1.length ≤ 16 := by
  have hn := G.2.1.1.1.1.1
  refine ⟨R.2.2.2.1.2.1, R.2.2.2.2.1.2.1, R.2.2.1.1.1, R.2.2.2.1.1.2.2.1.2.1, fun o o1 o2 => ?_, hn.1⟩
  have cl := (R.2.2.1.1.1 o o1 o2).1
  exact ⟨cl, vK.n5 hn cl⟩
theorem x_51 (hH : HPc T L H s) (B : HBs T L H) (h79 : s.1 79 2 = nI H.1) (hO : HOK T L H) (n1 : ∀ o, 1 ≤ o → o ≤ H.1 → 1 ≤ nmL L (H.2 o).1) (o1 : 1 ≤ o) (o2 : o ≤ H.1) : mjF (d + 2) 51 [.ref 79, .int (nI o)] (mjW0 s) = some (some (.int (nI (chN H H.1 ((H.2 o).2.1 0)))), mjW0 s) := by
  have b1 := B.1
  have b2' := B.2
  have ol := (hO o o1 o2).2.1 0
  have k := lq_51 (d := d) hH B h79 hO n1 H.1 mjN 0 ((H.2 o).2.1 0) (by omega) (by omega) (by unfold mjN; omega)
  rw [Nat.zero_add] at k
  rw [e_51]
  unfold f_51 b_51_0
  rw [xV_79, show (0 : Int32) = nI 0 from rfl, x_49 hH B o1 o2 (n1 o o1 o2), bI_s]
  exact k
theorem x_347 (hP : HPr T L b H s) (B : HBs T L H) (hO : HOK T L H) (n1 : ∀ o, 1 ≤ o → o ≤ H.1 → 1 ≤ nmL L (H.2 o).1) (o1 : 1 ≤ o) (o2 : o ≤ H.1) : mjF (d + 2) 347 [.ref 97, .int (nI o)] (mjW0 s) = some (some (.int (nI (chN H H.1 ((H.2 o).2.1 0)))), mjW0 s) := by
  have b1 := B.1
  have b2' := B.2
  have ol := (hO o o1 o2).2.1 0
  have k := lq_347 (d := d) hP B hO n1 H.1 mjN 0 ((H.2 o).2.1 0) (by omega) (by omega) (by unfold mjN; omega)
  rw [Nat.zero_add] at k
  rw [e_347]
  unfold f_347 b_347_0
  rw [xV_97, x_253 hP B (n1 o o1 o2) o1 o2, bI_s]
  exact k
theorem m16 (b k : Nat) : nI (16 * b + k) - (16 : Int32) * nI b = nI k := by
  rw [show (16 : Int32) = nI 16 from rfl, nI_mul, pk_sub (by omega), show 16 * b + k - 16 * b = k by omega]
theorem pair_object (I : Inv i s) (a v : Int32) : PairOK (Inv (i + 1)) 216 346 [.int a, .int v] s := by
  have J : Inv (i + 1) s := I.mono (by omega)
  rcases I.obj a with ⟨c43, r246⟩ | ⟨T, N, b, q, t, rs, kb, z, tr, cs, wm, cm, A, o, G, R, B, eo, o1, o2, c43, r246⟩
  · refine ⟨-1, s, s, ?_, ?_, J⟩
    · rw [e_216 (d := 1998)]
      unfold f_216 b_216_0
      rw [xg_0_11, xV_79, c43 1997, bI_s, if_pos rfl]
    · rw [e_346 (d := 1998)]
      unfold f_346 b_346_0
      rw [xV_97, r246 1997, bI_s, if_pos rfl]
  · obtain ⟨hHc, hPr, hO, h79, hcl, l16⟩ := R.at G
    obtain ⟨cl, n1, n5⟩ := hcl o o1 o2
    have n1' : ∀ o, 1 ≤ o → o ≤ A.1.1 → 1 ≤ nmL t.1 (A.1.2 o).1 := fun o o1 o2 => (hcl o o1 o2).2.1
    have hb := G.1.1
    have e6 := G.1.2.2.2.1
    have e9 := G.1.2.1
    have hq : isP q := G.2.2.2.1.1.1
    have g8 := G.2.2.2.1.2.2.1.1
    obtain ⟨_, rf, _⟩ := G.ref
    obtain ⟨r1, r2, r3, r4, r5, r6⟩ := rf (A.1.2 o).1 cl
    have b1 := B.1
    have b2' := B.2
    have p169 := (hPr o o1 o2).1
    have c43' := c43 1997
    have r246' := r246 1997
    have pc : mjF 1999 216 [.ref 0, .int a, .int v] (mjW0 s) = (f_216 (mjF 1998) 0 (nI o) v (mjW0 s)) := by rw [eo]; exact e_216 (d := 1998)
    have pr : mjF 1999 346 [.ref 97, .int a, .int v] (mjW0 s) = (f_346 (mjF 1998) 97 (nI o) v (mjW0 s)) := by rw [eo]; exact e_346 (d := 1998)
    rw [eo] at c43' r246'
    unfold f_216 b_216_0 at pc
    rw [xg_0_11, xV_79, c43', bI_s, if_neg (show ¬ ((1 : Int32) = 0) by decide)] at pc
    unfold f_346 b_346_0 at pr
    rw [xV_97, r246', bI_s, if_neg (show ¬ ((1 : Int32) = 0) by decide), xg_97_109, wa_169 (by omega), p169] at pr
    by_cases v0 : v = 0
    · refine ⟨nI (A.1.2 o).1, s, s, ?_, ?_, J⟩
      · rw [pc, if_pos v0, xg_0_11, xV_79, x_46 hHc B o1 o2, bI_s]
      · rw [pr, if_pos v0, xg_97_9, e9, m16]
    by_cases v1 : v = 1
    · refine ⟨nI ((A.1.2 o).2.1 0), s, s, ?_, ?_, J⟩
      · rw [pc, if_neg v0, if_pos v1, xg_0_11, xV_79, show (0 : Int32) = nI 0 from rfl, x_49 hHc B o1 o2 n1, bI_s]
      · rw [pr, if_neg v0, if_pos v1, xV_97, x_253 hPr B n1 o1 o2, bI_s]
    by_cases v2 : v = 2
    · refine ⟨nI (nmL t.1 (A.1.2 o).1), s, s, ?_, ?_, J⟩
      · rw [pc, if_neg v0, if_neg v1, if_pos v2, xg_0_11, xV_79, x_48 hHc B o1 o2, bI_s]
      · rw [pr, if_neg v0, if_neg v1, if_pos v2, xg_97_15, wa_104 (by omega), r1]
    by_cases v3 : v = 3
    · refine ⟨nI (fldT T t.1 (A.1.2 o).1), s, s, ?_, ?_, J⟩
      · rw [pc, if_neg v0, if_neg v1, if_neg v2, if_pos v3, xg_0_6, e6, yg_8 hq, xg_0_11, xV_79, x_46 hHc B o1 o2, bI_s, wya_8 hq (by omega), g8 _ cl]
      · rw [pr, if_neg v0, if_neg v1, if_neg v2, if_pos v3, xg_97_20, wa_109 (by omega), r4]
    by_cases v4 : v = 4
    · refine ⟨nI (chN A.1 A.1.1 ((A.1.2 o).2.1 0)), s, s, ?_, ?_, J⟩
      · rw [pc, if_neg v0, if_neg v1, if_neg v2, if_neg v3, if_pos v4, xg_0_11, xV_79, x_51 (d := 1996) hHc B h79 hO n1' o1 o2, bI_s]
      · rw [pr, if_neg v0, if_neg v1, if_neg v2, if_neg v3, if_pos v4, xV_97, x_347 (d := 1996) hPr B hO n1' o1 o2, bI_s]
    · refine ⟨-1, s, s, ?_, ?_, J⟩
      · rw [pc, if_neg v0, if_neg v1, if_neg v2, if_neg v3, if_neg v4]
      · rw [pr, if_neg v0, if_neg v1, if_neg v2, if_neg v3, if_neg v4]
theorem pair_owner (I : Inv i s) (a v : Int32) : PairOK (Inv (i + 1)) 217 348 [.int a, .int v] s := by
  have J : Inv (i + 1) s := I.mono (by omega)
  rcases I.obj a with ⟨c43, r246⟩ | ⟨T, N, b, q, t, rs, kb, z, tr, cs, wm, cm, A, o, G, R, B, eo, o1, o2, c43, r246⟩
  · refine ⟨-1, s, s, ?_, ?_, J⟩
    · rw [e_217 (d := 1998)]
      unfold f_217 b_217_0 b_217_31 b_217_32
      rw [xg_0_11, xV_79, c43 1997, bI_s, if_pos rfl, if_pos rfl]
    · rw [e_348 (d := 1998)]
      unfold f_348 b_348_0 b_348_27
      rw [xV_97, r246 1997, bI_s, if_pos rfl]
  · obtain ⟨hHc, hPr, hO, h79, hcl, l16⟩ := R.at G
    obtain ⟨cl, n1, n5⟩ := hcl o o1 o2
    have hb := G.1.1
    obtain ⟨_, rf, _⟩ := G.ref
    obtain ⟨r1, r2, r3, r4, r5, r6⟩ := rf (A.1.2 o).1 cl
    have b1 := B.1
    have b2' := B.2
    obtain ⟨p1, p2, p3, p4⟩ := hPr o o1 o2
    have fl := fr_lt T t.1 A.1 o1 o2
    have c43' := c43 1997
    have r246' := r246 1997
    have pc : mjF 1999 217 [.ref 0, .int a, .int v] (mjW0 s) = (f_217 (mjF 1998) 0 (nI o) v (mjW0 s)) := by rw [eo]; exact e_217 (d := 1998)
    have pr : mjF 1999 348 [.ref 97, .int a, .int v] (mjW0 s) = (f_348 (mjF 1998) 97 (nI o) v (mjW0 s)) := by rw [eo]; exact e_348 (d := 1998)
    rw [eo] at c43' r246'
    unfold f_217 b_217_0 b_217_31 b_217_32 at pc
    rw [xg_0_11, xV_79, c43', bI_s, if_neg (show ¬ ((1 : Int32) = 0) by decide)] at pc
    unfold f_348 b_348_0 b_348_27 at pr
    rw [xV_97, r246', bI_s, if_neg (show ¬ ((1 : Int32) = 0) by decide)] at pr
    by_cases h1 : v < 0
    · refine ⟨-1, s, s, ?_, ?_, J⟩
      · rw [pc, if_pos h1, if_pos rfl]
      · rw [pr, if_pos h1]
    rw [if_neg h1, xg_0_11, xV_79, x_48 hHc B o1 o2, bI_s] at pc
    rw [if_neg h1, xg_97_15, xg_97_109, wa_169 (by omega), p1, wa_104 (by omega), r1] at pr
    by_cases h2 : nI (nmL t.1 (A.1.2 o).1) ≤ v
    · refine ⟨-1, s, s, ?_, ?_, J⟩
      · rw [pc, if_pos h2, if_pos rfl]
      · rw [pr, if_neg (Int32.not_lt.mpr h2)]
    · obtain ⟨x, x31, ex⟩ := nI_of h1
      have xl : x < nmL t.1 (A.1.2 o).1 := by
        rw [ex] at h2
        exact (nI_ltI (by omega) (by omega)).mp (Int32.not_le.mp h2)
      refine ⟨nI ((A.1.2 o).2.1 x), s, s, ?_, ?_, J⟩
      · rw [pc, if_neg h2, if_neg (show ¬ ((1 : Int32) = 0) by decide), xg_0_11, xV_79, ex, x_49 hHc B o1 o2 xl, bI_s]
      · rw [pr, if_pos (Int32.not_le.mp h2), xg_97_108, xg_97_110, wa_170 (by omega), p2, ex, nI_add, wa_168 (by omega), p3 x xl]
theorem pair_field (I : Inv i s) (a v : Int32) : PairOK (Inv (i + 1)) 218 349 [.int a, .int v] s := by
  have J : Inv (i + 1) s := I.mono (by omega)
  rcases I.obj a with ⟨c43, r246⟩ | ⟨T, N, b, q, t, rs, kb, z, tr, cs, wm, cm, A, o, G, R, B, eo, o1, o2, c43, r246⟩
  · refine ⟨0, s, s, ?_, ?_, J⟩
    · rw [e_218 (d := 1998)]
      unfold f_218 b_218_0 b_218_39 b_218_40
      rw [xg_0_11, xV_79, c43 1997, bI_s, if_pos rfl, if_pos rfl]
    · rw [e_349 (d := 1998)]
      unfold f_349 b_349_0 b_349_27
      rw [xV_97, r246 1997, bI_s, if_pos rfl]
  · obtain ⟨hHc, hPr, hO, h79, hcl, l16⟩ := R.at G
    obtain ⟨cl, n1, n5⟩ := hcl o o1 o2
    have hb := G.1.1
    have e6 := G.1.2.2.2.1
    have hq : isP q := G.2.2.2.1.1.1
    have g8 := G.2.2.2.1.2.2.1.1
    have h384 := G.2.1.2.2.1 (A.1.2 o).1
    obtain ⟨_, rf, _⟩ := G.ref
    obtain ⟨r1, r2, r3, r4, r5, r6⟩ := rf (A.1.2 o).1 cl
    have b1 := B.1
    have b2' := B.2
    obtain ⟨p1, p2, p3, p4⟩ := hPr o o1 o2
    have fl := fr_lt T t.1 A.1 o1 o2
    have c43' := c43 1997
    have r246' := r246 1997
    have pc : mjF 1999 218 [.ref 0, .int a, .int v] (mjW0 s) = (f_218 (mjF 1998) 0 (nI o) v (mjW0 s)) := by rw [eo]; exact e_218 (d := 1998)
    have pr : mjF 1999 349 [.ref 97, .int a, .int v] (mjW0 s) = (f_349 (mjF 1998) 97 (nI o) v (mjW0 s)) := by rw [eo]; exact e_349 (d := 1998)
    rw [eo] at c43' r246'
    unfold f_218 b_218_0 b_218_39 b_218_40 at pc
    rw [xg_0_11, xV_79, c43', bI_s, if_neg (show ¬ ((1 : Int32) = 0) by decide)] at pc
    unfold f_349 b_349_0 b_349_27 at pr
    rw [xV_97, r246', bI_s, if_neg (show ¬ ((1 : Int32) = 0) by decide)] at pr
    by_cases h1 : v < 0
    · refine ⟨0, s, s, ?_, ?_, J⟩
      · rw [pc, if_pos h1, if_pos rfl]
      · rw [pr, if_pos h1]
    rw [if_neg h1, xg_0_6, e6, yg_8 hq, xg_0_11, xV_79, x_46 hHc B o1 o2, bI_s, wya_8 hq (by omega), g8 _ cl] at pc
    rw [if_neg h1, xg_97_20, xg_97_109, wa_169 (by omega), p1, wa_109 (by omega), r4] at pr
    by_cases h2 : nI (fldT T t.1 (A.1.2 o).1) ≤ v
    · refine ⟨0, s, s, ?_, ?_, J⟩
      · rw [pc, if_pos h2, if_pos rfl]
      · rw [pr, if_neg (Int32.not_lt.mpr h2)]
    · obtain ⟨x, x31, ex⟩ := nI_of h1
      have xl : x < fldT T t.1 (A.1.2 o).1 := by
        rw [ex] at h2
        exact (nI_ltI (by omega) (by omega)).mp (Int32.not_le.mp h2)
      refine ⟨(A.1.2 o).2.2 x, s, s, ?_, ?_, J⟩
      · rw [pc, if_neg h2, if_neg (show ¬ ((1 : Int32) = 0) by decide), xg_0_11, xV_79, ex, x_45 hHc B o1 o2 xl, bI_s]
      · rw [pr, if_pos (Int32.not_le.mp h2), xg_97_108, xg_97_110, wa_170 (by omega), p2, xg_97_15, xg_97_109, wa_169 (by omega), p1, wa_104 (by omega), r1, ex, nI_add, nI_add, wa_168 (by omega), p4 x xl]
theorem pair_inside (I : Inv i s) (a v : Int32) : PairOK (Inv (i + 1)) 219 350 [.int a, .int v] s := by
  have J : Inv (i + 1) s := I.mono (by omega)
  rcases I.obj a with ⟨c43, r246⟩ | ⟨T, N, b, q, t, rs, kb, z, tr, cs, wm, cm, A, o, G, R, B, eo, o1, o2, c43, r246⟩
  · refine ⟨0, s, s, ?_, ?_, J⟩
    · rw [e_219 (d := 1998)]
      unfold f_219 b_219_0 b_219_42
      rw [xg_0_11, xV_79, c43 1997, bI_s, if_pos rfl]
    · rw [e_350 (d := 1998)]
      unfold f_350 b_350_0 b_350_20
      rw [xV_97, r246 1997, bI_s, if_pos rfl]
  · obtain ⟨hHc, hPr, hO, h79, hcl, l16⟩ := R.at G
    have n1' : ∀ o, 1 ≤ o → o ≤ A.1.1 → 1 ≤ nmL t.1 (A.1.2 o).1 := fun o o1 o2 => (hcl o o1 o2).2.1
    have b1 := B.1
    have b2' := B.2
    have c43' := c43 1997
    have r246' := r246 1997
    have pc : mjF 1999 219 [.ref 0, .int a, .int v] (mjW0 s) = (f_219 (mjF 1998) 0 (nI o) v (mjW0 s)) := by rw [eo]; exact e_219 (d := 1998)
    have pr : mjF 1999 350 [.ref 97, .int a, .int v] (mjW0 s) = (f_350 (mjF 1998) 97 (nI o) v (mjW0 s)) := by rw [eo]; exact e_350 (d := 1998)
    rw [eo] at c43' r246'
    unfold f_219 b_219_0 b_219_26 b_219_42 at pc
    rw [xg_0_11, xV_79, c43', bI_s, if_neg (show ¬ ((1 : Int32) = 0) by decide)] at pc
    unfold f_350 b_350_0 b_350_20 b_350_22 at pr
    rw [xV_97, r246', bI_s, if_neg (show ¬ ((1 : Int32) = 0) by decide)] at pr
    have fin : ∀ c, c ≤ A.1.1 → v = nI c → (bI (mjF 1998 52 [.ref 79, .int (nI o), .int v] (mjW0 s)) (fun v2 hp3 => (if v2 = 0 then some (some (.int (0 : Int32)), hp3) else some (some (.int (1 : Int32)), hp3))) : mjU) = some (some (.int (b2 (inF A.1 c A.1.1 o))), mjW0 s) ∧ L_350_24 (mjF 1998) mjN 97 v (nI o) (mjW0 s) = some (some (.int (b2 (inF A.1 c A.1.1 o))), mjW0 s) := by
      intro c hc ev
      have k1 := lq_52 (d := 1996) (c := c) hHc B h79 hO n1' hc A.1.1 mjN 0 o (by omega) (by omega) (by unfold mjN; omega)
      have k2 := lq_350 (d := 1997) (c := c) hPr B hO n1' hc A.1.1 mjN o (by omega) (by omega) (by unfold mjN; omega)
      refine ⟨?_, by rw [ev]; exact k2⟩
      have k0 : mjF 1998 52 [.ref 79, .int (nI o), .int v] (mjW0 s) = some (some (.int (b2 (inF A.1 c A.1.1 o))), mjW0 s) := by
        rw [ev, e_52 (d := 1997)]
        unfold f_52 b_52_0
        exact k1
      rw [k0, bI_s]
      cases inF A.1 c A.1.1 o <;> rfl
    by_cases v0 : v = 0
    · obtain ⟨f1, f2⟩ := fin 0 (Nat.zero_le _) v0
      refine ⟨b2 (inF A.1 0 A.1.1 o), s, s, ?_, ?_, J⟩
      · rw [pc, if_pos v0, xg_0_11, xV_79, f1]
      · rw [pr, if_pos v0, f2]
    · rcases R.obj G v with ⟨d43, d246⟩ | ⟨c, ec, c1, c2, d43, d246⟩
      · refine ⟨0, s, s, ?_, ?_, J⟩
        · rw [pc, if_neg v0, xg_0_11, xV_79, d43 1997, bI_s, if_pos rfl]
        · rw [pr, if_neg v0, xV_97, d246 1997, bI_s, if_pos rfl]
      · obtain ⟨f1, f2⟩ := fin c c2 ec
        refine ⟨b2 (inF A.1 c A.1.1 o), s, s, ?_, ?_, J⟩
        · rw [pc, if_neg v0, xg_0_11, xV_79, d43 1997, bI_s, if_neg (show ¬ ((1 : Int32) = 0) by decide), xg_0_11, xV_79, f1]
        · rw [pr, if_neg v0, xV_97, d246 1997, bI_s, if_neg (show ¬ ((1 : Int32) = 0) by decide), f2]
end MJB87
