/-! ===== the Coder: KINDS that were read, MEMBERS by name, FITS ===== -/
theorem lt_z {T : TT} {N c : Nat} (h0 : (T N).1 = 0) (hc : c ≤ N) {k : Int32} (hk : (T c).1 = k) (hz : ¬ k = 0) : c < N := by
  by_cases e : c = N
  · rw [e, h0] at hk; exact absurd hk.symm hz
  · omega
theorem pOwn_ok {T : TT} {N : Nat} (h0 : (T N).1 = 0) : ∀ (f k c c' : Nat), f + k = 6 → 1 ≤ f → c ≤ N → pOwn T f k c = .inr c' → 1 ≤ cntO T f c ∧ cntO T f c + k ≤ 5 ∧ c' = c + 2 * cntO T f c ∧ c' ≤ N ∧ (∀ i, i < cntO T f c → isOw (T (c + 2 * i)).1) ∧ (∀ i, 1 ≤ i → i < cntO T f c → (T (c + 2 * i - 1)).1 = 44) ∧ (T (c + 2 * cntO T f c - 1)).1 = 93
  | 0, k, c, c', hf, h1, hc, h => by omega
  | f + 1, k, c, c', hf, h1, hc, h => by
    unfold pOwn at h
    by_cases ow : (T c).1 = 12 ∨ (T c).1 = 13 ∨ (T c).1 = 3
    · rw [if_pos ow] at h
      have c1 : c < N := by
        rcases ow with o | o | o
        · exact lt_z h0 hc o (by decide)
        · exact lt_z h0 hc o (by decide)
        · exact lt_z h0 hc o (by decide)
      by_cases k5 : k = 5
      · rw [if_pos k5] at h; cases h
      · rw [if_neg k5] at h
        by_cases cm : (T (c + 1)).1 = 44
        · rw [if_pos cm] at h
          have c2 := lt_z h0 (show c + 1 ≤ N by omega) cm (by decide)
          obtain ⟨a1, a2, a3, a4, a5, a6, a7⟩ := pOwn_ok h0 f (k + 1) (c + 2) c' (by omega) (by omega) (by omega) h
          have ec : cntO T (f + 1) c = cntO T f (c + 2) + 1 := by
            show (if (T (c + 1)).1 = 44 then cntO T f (c + 2) + 1 else 1) = _
            rw [if_pos cm]
          rw [ec]
          refine ⟨by omega, by omega, by omega, a4, fun i hi => ?_, fun i h1 h2 => ?_, ?_⟩
          · cases i with
            | zero => exact ow
            | succ i =>
              have := a5 i (by omega)
              rw [show c + 2 * (i + 1) = c + 2 + 2 * i by omega]
              exact this
          · cases i with
            | zero => omega
            | succ i =>
              cases i with
              | zero => exact cm
              | succ i =>
                have := a6 (i + 1) (by omega) (by omega)
                rw [show c + 2 * (i + 1 + 1) - 1 = c + 2 + 2 * (i + 1) - 1 by omega]
                exact this
          · rw [show c + 2 * (cntO T f (c + 2) + 1) - 1 = c + 2 + 2 * cntO T f (c + 2) - 1 by omega]
            exact a7
        · rw [if_neg cm] at h
          by_cases cl : (T (c + 1)).1 = 93
          · rw [if_pos cl] at h
            have c2 := lt_z h0 (show c + 1 ≤ N by omega) cl (by decide)
            cases h
            have ec : cntO T (f + 1) c = 1 := by
              show (if (T (c + 1)).1 = 44 then cntO T f (c + 2) + 1 else 1) = _
              rw [if_neg cm]
            rw [ec]
            refine ⟨by omega, by omega, by omega, by omega, fun i hi => ?_, fun i h1 h2 => by omega, ?_⟩
            · rw [show c + 2 * i = c by omega]; exact ow
            · rw [show c + 2 * 1 - 1 = c + 1 by omega]; exact cl
          · rw [if_neg cl] at h; cases h
    · rw [if_neg ow] at h; cases h
theorem pKind_ok {T : TT} {N t c' : Nat} (h0 : (T N).1 = 0) (ht : t ≤ N) (h : pKind T t = .inr c') : KDk T N t ∧ c' = t + 2 + 2 * cntO T 6 (t + 2) := by
  unfold pKind at h
  by_cases a : (T t).1 = 2
  · rw [if_pos a] at h
    by_cases b : (T (t + 1)).1 = 91
    · rw [if_pos b] at h
      have t1 := lt_z h0 ht a (by decide)
      have t2 := lt_z h0 (show t + 1 ≤ N by omega) b (by decide)
      obtain ⟨a1, a2, a3, a4, a5, a6, a7⟩ := pOwn_ok h0 6 0 (t + 2) c' (by omega) (by omega) (by omega) h
      refine ⟨⟨a, a1, by omega, by omega, a5, fun i h1 h2 => ?_, ?_⟩, a3⟩
      · have := a6 i h1 h2
        rw [show t + 2 + 2 * i - 1 = t + 1 + 2 * i by omega] at this
        exact this
      · rw [show t + 2 + 2 * cntO T 6 (t + 2) - 1 = t + 1 + 2 * cntO T 6 (t + 2) by omega] at a7
        exact a7
    · rw [if_neg b] at h; cases h
  · rw [if_neg a] at h; cases h
theorem pType_ok {T : TT} {N t c' : Nat} (h0 : (T N).1 = 0) (ht : t ≤ N) (h : pType T t = .inr c') : TYk T N t ∧ c' = teT T t := by
  unfold pType at h
  by_cases a : (T t).1 = 10
  · rw [if_pos a] at h
    cases h
    refine ⟨Or.inl ⟨a, lt_z h0 ht a (by decide)⟩, ?_⟩
    unfold teT
    rw [if_pos a]
  · rw [if_neg a] at h
    obtain ⟨k, e⟩ := pKind_ok h0 ht h
    refine ⟨Or.inr ⟨a, k⟩, ?_⟩
    unfold teT
    rw [if_neg a]
    exact e
/-- what the Coder stands on -/
def CB (T : TT) (N q : Nat) (L : List CD) (tr : Bool) (s : mjSt3) : Prop := HDR T N q L s ∧ RDM T N q L s ∧ ACY T N L ∧ PFm T N L ∧ s.1 71 4 = b2 tr ∧ (s.2.2 75 3 = q ∧ s.2.2 75 4 = q + 14 ∧ s.2.2 75 5 = q + 24)
/-- all that the Coder changes -/
def oC (q : Nat) : mjSt3 → mjSt3 → Prop := offG (fun h j => c58 h j ∨ (h = 75 ∧ 6 ≤ j ∧ j ≤ 16) ∨ h = 77 ∨ h = 78 ∨ (h = q + 24 ∧ j = 3) ∨ (q + 25 ≤ h ∧ h ≤ q + 27) ∨ h = q + 23) (fun h _ => h = 76)
section MJA24
variable {T : TT} {d N q c t n e k u v i m o : Nat} {s s' : mjSt3} {L : List CD} {tr : Bool}
theorem oC.r (x : oC q s s') {h : Nat} (hh : ¬ (h = 58 ∨ h = 75 ∨ h = 77 ∨ h = 78 ∨ (q + 23 ≤ h ∧ h ≤ q + 27))) : s'.1 h = s.1 h := funext fun j => x.1 h j (by unfold c58; omega)
theorem oC.lr (x : oC q s s') {h : Nat} (hh : ¬ h = 76) : s'.2.1 h = s.2.1 h := funext fun j => x.2.1 h j hh
theorem o58.C (x : o58 s s') : oC q s s' := offG.mono x (fun _ _ h => Or.inl h) (fun _ _ h => h.elim)
theorem JX.oC (X : JX T N q L s) (x : oC q s s') : JX T N q L s' := by
  obtain ⟨⟨a1, a2, a3, a4⟩, b, c, e, f, g, i, j⟩ := X
  have hq : q = 2 ∨ q = 30 := f
  refine ⟨⟨(x.1 58 5 (by unfold c58; omega)).trans a1, a2, a3, fun k hk => ?_⟩, b.lr (x.lr (by omega)), c, ?_, f, ?_, ?_, ?_⟩
  · rw [x.r (by omega), x.r (by omega)]; exact a4 k hk
  · unfold CKs; rw [x.lr (by omega), x.lr (by omega), x.lr (by omega)]; exact e
  · rw [x.2.2]; exact g
  · unfold pnm; rw [x.r (by omega)]; exact i
  · rw [x.r (by omega)]; exact j
theorem CB.oC (C : CB T N q L tr s) (x : oC q s s') : CB T N q L tr s' := by
  obtain ⟨⟨h1, h2, h3, h4, h5, h6, h7, h8, h9⟩, D, A, P, t, r⟩ := C
  have hq : q = 2 ∨ q = 30 := h1.2.2.2.2.1
  refine ⟨⟨h1.oC x, ?_, ?_, ?_, ?_, ?_, ?_, ?_, ?_⟩, ?_, A, P, ?_, ?_⟩
  · unfold ABK; rw [x.r (by omega)]; exact h2
  · unfold INP; rw [x.r (by omega), x.r (by omega)]; exact h3
  · unfold VWS; rw [x.r (by omega)]; exact h4
  · rw [x.r (by omega)]; exact h5
  · unfold NUr; rw [x.r (by omega)]; exact h6
  · unfold KNW; rw [x.r (by omega)]; exact h7
  · intro m hm; unfold TYr; rw [x.r (by omega), x.r (by omega)]; exact h8 m hm
  · unfold OBr; rw [x.lr (by omega)]; exact h9
  · unfold RDM; rw [x.r (by omega), x.r (by omega), x.r (by omega), x.r (by omega), x.r (by omega), x.r (by omega), x.r (by omega), x.r (by omega), x.lr (by omega), x.lr (by omega)]; exact D
  · rw [x.r (by omega)]; exact t
  · rw [x.2.2]; exact r
theorem CB.pq (C : CB T N q L tr s) : isP q := C.1.1.2.2.2.2.1
theorem CB.hn (C : CB T N q L tr s) : HN T N L := C.1.1.2.2.1
/-- emit -/
theorem x_1 (hq : isP q) (hs : s.1 (q + 24) 3 = nI n) (hn : n < 3100) (a b c' : Int32) : ∃ s', mjF (d + 1) 1 [.ref (q + 24), .int a, .int b, .int c'] (mjW0 s) = some (some (.int (nI n)), mjW0 s') ∧ oC q s s' ∧ s'.1 58 = s.1 58 ∧ s'.1 75 = s.1 75 ∧ s'.1 77 = s.1 77 ∧ s'.1 78 = s.1 78 ∧ s'.1 (q + 23) = s.1 (q + 23) ∧ s'.2 = s.2 ∧ s'.1 (q + 24) 3 = nI (n + 1) ∧ (∀ j, s'.1 (q + 25) j = if j = n then a else s.1 (q + 25) j) ∧ (∀ j, s'.1 (q + 26) j = if j = n then b else s.1 (q + 26) j) ∧ (∀ j, s'.1 (q + 27) j = if j = n then c' else s.1 (q + 27) j) := by
  have hq' : q = 2 ∨ q = 30 := hq
  obtain ⟨z1, h1⟩ : ∃ z, z = uI s (q + 25) (upd (s.1 (q + 25)) n a) := ⟨_, rfl⟩
  obtain ⟨z2, h2⟩ : ∃ z, z = uI z1 (q + 26) (upd (z1.1 (q + 26)) n b) := ⟨_, rfl⟩
  obtain ⟨z3, h3⟩ : ∃ z, z = uI z2 (q + 27) (upd (z2.1 (q + 27)) n c') := ⟨_, rfl⟩
  obtain ⟨z4, h4⟩ : ∃ z, z = uI z3 (q + 24) (upd (z3.1 (q + 24)) 3 (nI (n + 1))) := ⟨_, rfl⟩
  have v1 : ∀ x, ¬ x = q + 25 → z1.1 x = s.1 x := fun x e => by rw [h1]; exact uI_ne _ _ _ _ e
  have v2 : ∀ x, ¬ x = q + 26 → z2.1 x = z1.1 x := fun x e => by rw [h2]; exact uI_ne _ _ _ _ e
  have v3 : ∀ x, ¬ x = q + 27 → z3.1 x = z2.1 x := fun x e => by rw [h3]; exact uI_ne _ _ _ _ e
  have v4 : ∀ x, ¬ x = q + 24 → z4.1 x = z3.1 x := fun x e => by rw [h4]; exact uI_ne _ _ _ _ e
  have w : ∀ x, ¬ (q + 24 ≤ x ∧ x ≤ q + 27) → z4.1 x = s.1 x := fun x e => by rw [v4 x (by omega), v3 x (by omega), v2 x (by omega), v1 x (by omega)]
  have s3 : z3.1 (q + 24) 3 = nI n := by rw [v3 _ (by omega), v2 _ (by omega), v1 _ (by omega), hs]
  refine ⟨z4, ?_, ?_, w 58 (by omega), w 75 (by omega), w 77 (by omega), w 78 (by omega), w (q + 23) (by omega), by rw [h4, h3, h2, h1]; rfl, ?_, fun j => ?_, fun j => ?_, fun j => ?_⟩
  · rw [e_1]
    unfold f_1 b_1_0 b_1_48
    rw [ycg_3 hq, hs, if_neg (show ¬ (3100 : Int32) ≤ nI n from nI_ge (b := 3100) hn (by decide)), ycg_0 hq, wys_25 hq hn, ← h1, ycg_1 hq, wys_26 hq hn, ← h2, ycg_2 hq, wys_27 hq hn, ← h3, ycg_3 hq, s3, nI_1, ycp_3 hq, ← h4]
  · rw [h4, h3, h2, h1]
    exact (((offG.w (by omega)).tr (offG.w (h := q + 26) (by omega))).tr (offG.w (h := q + 27) (by omega))).tr (offG.w (h := q + 24) (j := 3) (by omega))
  · rw [h4, uI_same, upd_g, if_pos rfl]
  · rw [v4 _ (by omega), v3 _ (by omega), v2 _ (by omega), h1, uI_same, upd_g]
  · rw [v4 _ (by omega), v3 _ (by omega), h2, uI_same, upd_g, v1 _ (by omega)]
  · rw [v4 _ (by omega), h3, uI_same, upd_g, v2 _ (by omega), v1 _ (by omega)]
/-- emit, when nothing is asked of the code -/
theorem x_1B (hq : isP q) (hs : s.1 (q + 24) 3 = nI n) (hn : n ≤ 3100) (a b c' : Int32) : ∃ s' n', mjF (d + 1) 1 [.ref (q + 24), .int a, .int b, .int c'] (mjW0 s) = some (some (.int (nI n)), mjW0 s') ∧ oC q s s' ∧ s'.1 58 = s.1 58 ∧ s'.1 75 = s.1 75 ∧ s'.1 (q + 24) 3 = nI n' ∧ n' ≤ 3100 := by
  by_cases h : n < 3100
  · obtain ⟨s', a1, a2, a3, a4, a5, a6, a7, a8, a9, _⟩ := x_1 (d := d) hq hs h a b c'
    exact ⟨s', n + 1, a1, a2, a3, a4, a9, by omega⟩
  · refine ⟨s, n, ?_, offG.rf, rfl, rfl, hs, hn⟩
    rw [e_1]
    unfold f_1 b_1_0 b_1_48
    rw [ycg_3 hq, hs, if_pos (show (3100 : Int32) ≤ nI n from nI_le (a := 3100) (by omega) (by omega))]
/-- aimHere -/
theorem x_2 (hq : isP q) (hs : s.1 (q + 24) 3 = nI n) (hm : m < 3100) : mjF (d + 1) 2 [.ref (q + 24), .int (nI m)] (mjW0 s) = some (none, mjW0 (uI s (q + 26) (upd (s.1 (q + 26)) m (nI n)))) := by
  rw [e_2]
  unfold f_2 b_2_0
  rw [if_neg (show ¬ (3100 : Int32) ≤ nI m from nI_ge (b := 3100) hm (by decide)), ycg_1 hq, ycg_3 hq, hs, wys_26 hq hm]
theorem x_2B (hq : isP q) (hs : s.1 (q + 24) 3 = nI n) (hm : m ≤ 3100) : ∃ s', mjF (d + 1) 2 [.ref (q + 24), .int (nI m)] (mjW0 s) = some (none, mjW0 s') ∧ oC q s s' ∧ s'.1 58 = s.1 58 ∧ s'.1 75 = s.1 75 ∧ s'.1 (q + 24) = s.1 (q + 24) := by
  have hq' : q = 2 ∨ q = 30 := hq
  by_cases h : m < 3100
  · exact ⟨_, x_2 hq hs h, offG.w (by omega), uI_ne _ _ _ _ (by omega), uI_ne _ _ _ _ (by omega), uI_ne _ _ _ _ (by omega)⟩
  · refine ⟨s, ?_, offG.rf, rfl, rfl, rfl⟩
    rw [e_2]
    unfold f_2 b_2_0
    rw [if_pos (show (3100 : Int32) ≤ nI m from nI_le (a := 3100) (by omega) (by omega))]
end MJA24
