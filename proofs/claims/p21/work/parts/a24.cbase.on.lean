section
/-! ===== the Coder: KINDS that were read, MEMBERS by name, FITS ===== -/
theorem lt_z {T : TT} {N c : Nat} (h0 : (T N).1 = 0) (hc : c ≤ N) {k : Int32} (hk : (T c).1 = k) (hz : ¬ k = 0) : c < N := by
  by_cases e : c = N
  · rw [e, h0] at hk; exact absurd hk.symm hz
  · omega
theorem pOwn_ok {T : TT} {N : Nat} (h0 : (T N).1 = 0) : ∀ (f k c c' : Nat), f + k = 6 → 1 ≤ f → c ≤ N → pOwn T f k c = .inr c' → 1 ≤ cntO T f c ∧ cntO T f c + k ≤ 5 ∧ c' = c + 2 * cntO T f c ∧ c' ≤ N ∧ (∀ i, i < cntO T f c → isOw (T (c + 2 * i)).1) ∧ (∀ i, 1 ≤ i → i < cntO T f c → (T (c + 2 * i - 1)).1 = 44) ∧ (T (c + 2 * cntO T f c - 1)).1 = 93
  | 0, k, c, c', hf, h1, hc, h => by omega
  | f + 1, k, c, c', hf, h1, hc, h => by
    unfold pOwn at h
    by_cases ow : (T c).1 = 12 ∨ (T c).1 = 13 ∨ (T c).1 = 3
    · rw [if_pos ow] at h
      have c1 : c < N := by
        rcases ow with o | o | o
        · exact lt_z h0 hc o (by decide)
        · exact lt_z h0 hc o (by decide)
        · exact lt_z h0 hc o (by decide)
      by_cases k5 : k = 5
      · rw [if_pos k5] at h; cases h
      · rw [if_neg k5] at h
        by_cases cm : (T (c + 1)).1 = 44
        · rw [if_pos cm] at h
          have c2 := lt_z h0 (show c + 1 ≤ N by omega) cm (by decide)
          obtain ⟨a1, a2, a3, a4, a5, a6, a7⟩ := pOwn_ok h0 f (k + 1) (c + 2) c' (by omega) (by omega) (by omega) h
          have ec : cntO T (f + 1) c = cntO T f (c + 2) + 1 := by
            show (if (T (c + 1)).1 = 44 then cntO T f (c + 2) + 1 else 1) = _
            rw [if_pos cm]
          rw [ec]
          refine ⟨by omega, by omega, by omega, a4, fun i hi => ?_, fun i h1 h2 => ?_, ?_⟩
          · cases i with
            | zero => exact ow
            | succ i =>
              have := a5 i (by omega)
              rw [show c + 2 * (i + 1) = c + 2 + 2 * i by omega]
              exact this
          · cases i with
            | zero => omega
            | succ i =>
              cases i with
              | zero => exact cm
              | succ i =>
                have := a6 (i + 1) (by omega) (by omega)
                rw [show c + 2 * (i + 1 + 1) - 1 = c + 2 + 2 * (i + 1) - 1 by omega]
                exact this
          · rw [show c + 2 * (cntO T f (c + 2) + 1) - 1 = c + 2 + 2 * cntO T f (c + 2) - 1 by omega]
            exact a7
        · rw [if_neg cm] at h
          by_cases cl : (T (c + 1)).1 = 93
          · rw [if_pos cl] at h
            have c2 := lt_z h0 (show c + 1 ≤ N by omega) cl (by decide)
            cases h
            have ec : cntO T (f + 1) c = 1 := by
              show (if (T (c + 1)).1 = 44 then cntO T f (c + 2) + 1 else 1) = _
              rw [if_neg cm]
            rw [ec]
            refine ⟨by omega, by omega, by omega, by omega, fun i hi => ?_, fun i h1 h2 => by omega, ?_⟩
            · rw [show c + 2 * i = c by omega]; exact ow
            · rw [show c + 2 * 1 - 1 = c + 1 by omega]; exact cl
          · rw [if_neg cl] at h; cases h
    · rw [if_neg ow] at h; cases h
theorem pKind_ok {T : TT} {N t c' : Nat} (h0 : (T N).1 = 0) (ht : t ≤ N) (h : pKind T t = .inr c') : KDk T N t ∧ c' = t + 2 + 2 * cntO T 6 (t + 2) := by
  unfold pKind at h
  by_cases a : (T t).1 = 2
  · rw [if_pos a] at h
    by_cases b : (T (t + 1)).1 = 91
    · rw [if_pos b] at h
      have t1 := lt_z h0 ht a (by decide)
      have t2 := lt_z h0 (show t + 1 ≤ N by omega) b (by decide)
      obtain ⟨a1, a2, a3, a4, a5, a6, a7⟩ := pOwn_ok h0 6 0 (t + 2) c' (by omega) (by omega) (by omega) h
      refine ⟨⟨a, a1, by omega, by omega, a5, fun i h1 h2 => ?_, ?_⟩, a3⟩
      · have := a6 i h1 h2
        rw [show t + 2 + 2 * i - 1 = t + 1 + 2 * i by omega] at this
        exact this
      · rw [show t + 2 + 2 * cntO T 6 (t + 2) - 1 = t + 1 + 2 * cntO T 6 (t + 2) by omega] at a7
        exact a7
    · rw [if_neg b] at h; cases h
  · rw [if_neg a] at h; cases h
theorem pType_ok {T : TT} {N t c' : Nat} (h0 : (T N).1 = 0) (ht : t ≤ N) (h : pType T t = .inr c') : TYk T N t ∧ c' = teT T t := by
  unfold pType at h
  by_cases a : (T t).1 = 10
  · rw [if_pos a] at h
    cases h
    refine ⟨Or.inl ⟨a, lt_z h0 ht a (by decide)⟩, ?_⟩
    unfold teT
    rw [if_pos a]
  · rw [if_neg a] at h
    obtain ⟨k, e⟩ := pKind_ok h0 ht h
    refine ⟨Or.inr ⟨a, k⟩, ?_⟩
    unfold teT
    rw [if_neg a]
    exact e
/-- what the Coder stands on -/
def CB (T : TT) (N q : Nat) (L : List CD) (tr : Bool) (s : mjSt3) : Prop := HDR T N q L s ∧ RDM T N q L s ∧ ACY T N L ∧ PFm T N L ∧ s.1 71 4 = b2 tr ∧ (s.2.2 75 3 = q ∧ s.2.2 75 4 = q + 14 ∧ s.2.2 75 5 = q + 24)
/-- all that the Coder changes -/
def oC (q : Nat) : mjSt3 → mjSt3 → Prop := offG (fun h j => c58 h j ∨ (h = 75 ∧ 6 ≤ j ∧ j ≤ 16) ∨ h = 77 ∨ h = 78 ∨ (h = q + 24 ∧ j = 3) ∨ (q + 25 ≤ h ∧ h ≤ q + 27) ∨ h = q + 23) (fun h _ => h = 76)
section MJA24
variable {T : TT} {d N q c t n e k u v i m o : Nat} {s s' : mjSt3} {L : List CD} {tr : Bool}
theorem oC.r (x : oC q s s') {h : Nat} (hh : ¬ (h = 58 ∨ h = 75 ∨ h = 77 ∨ h = 78 ∨ (q + 23 ≤ h ∧ h ≤ q + 27))) : s'.1 h = s.1 h := funext fun j => x.1 h j (by unfold c58; omega)
theorem oC.lr (x : oC q s s') {h : Nat} (hh : ¬ h = 76) : s'.2.1 h = s.2.1 h := funext fun j => x.2.1 h j hh
theorem o58.C (x : o58 s s') : oC q s s' := offG.mono x (fun _ _ h => Or.inl h) (fun _ _ h => h.elim)
theorem JX.oC (X : JX T N q L s) (x : oC q s s') : JX T N q L s' := by
  obtain ⟨⟨a1, a2, a3, a4⟩, b, c, e, f, g, i, j⟩ := X
  have hq : q = 2 ∨ q = 30 := f
  refine ⟨⟨(x.1 58 5 (by unfold c58; omega)).trans a1, a2, a3, fun k hk => ?_⟩, b.lr (x.lr (by omega)), c, ?_, f, ?_, ?_, ?_⟩
  · rw [x.r (by omega), x.r (by omega)]; exact a4 k hk
  · unfold CKs; rw [x.lr (by omega), x.lr (by omega), x.lr (by omega)]; exact e
  · rw [x.2.2]; exact g
  · unfold pnm; rw [x.r (by omega)]; exact i
  · rw [x.r (by omega)]; exact j
theorem CB.oC (C : CB T N q L tr s) (x : oC q s s') : CB T N q L tr s' := by
  obtain ⟨⟨h1, h2, h3, h4, h5, h6, h7, h8, h9⟩, D, A, P, t, r⟩ := C
  have hq : q = 2 ∨ q = 30 := h1.2.2.2.2.1
  refine ⟨⟨h1.oC x, ?_, ?_, ?_, ?_, ?_, ?_, ?_, ?_⟩, ?_, A, P, ?_, ?_⟩
  · unfold ABK; rw [x.r (by omega)]; exact h2
  · unfold INP; rw [x.r (by omega), x.r (by omega)]; exact h3
  · unfold VWS; rw [x.r (by omega)]; exact h4
  · rw [x.r (by omega)]; exact h5
  · unfold NUr; rw [x.r (by omega)]; exact h6
  · unfold KNW; rw [x.r (by omega)]; exact h7
  · intro m hm; unfold TYr; rw [x.r (by omega), x.r (by omega)]; exact h8 m hm
  · unfold OBr; rw [x.lr (by omega)]; exact h9
  · unfold RDM; rw [x.r (by omega), x.r (by omega), x.r (by omega), x.r (by omega), x.r (by omega), x.r (by omega), x.r (by omega), x.r (by omega), x.lr (by omega), x.lr (by omega)]; exact D
  · rw [x.r (by omega)]; exact t
  · rw [x.2.2]; exact r
theorem CB.pq (C : CB T N q L tr s) : isP q := C.1.1.2.2.2.2.1
theorem CB.hn (C : CB T N q L tr s) : HN T N L := C.1.1.2.2.1
/-- emit -/
theorem x_1 (hq : isP q) (hs : s.1 (q + 24) 3 = nI n) (hn : n < 3100) (a b c' : Int32) : ∃ s', mjF (d + 1) 1 [.ref (q + 24), .int a, .int b, .int c'] (mjW0 s) = some (some (.int (nI n)), mjW0 s') ∧ oC q s s' ∧ s'.1 58 = s.1 58 ∧ s'.1 75 = s.1 75 ∧ s'.1 77 = s.1 77 ∧ s'.1 78 = s.1 78 ∧ s'.1 (q + 23) = s.1 (q + 23) ∧ s'.2 = s.2 ∧ s'.1 (q + 24) 3 = nI (n + 1) ∧ (∀ j, s'.1 (q + 25) j = if j = n then a else s.1 (q + 25) j) ∧ (∀ j, s'.1 (q + 26) j = if j = n then b else s.1 (q + 26) j) ∧ (∀ j, s'.1 (q + 27) j = if j = n then c' else s.1 (q + 27) j) := by
  have hq' : q = 2 ∨ q = 30 := hq
  obtain ⟨z1, h1⟩ : ∃ z, z = uI s (q + 25) (upd (s.1 (q + 25)) n a) := ⟨_, rfl⟩
  obtain ⟨z2, h2⟩ : ∃ z, z = uI z1 (q + 26) (upd (z1.1 (q + 26)) n b) := ⟨_, rfl⟩
  obtain ⟨z3, h3⟩ : ∃ z, z = uI z2 (q + 27) (upd (z2.1 (q + 27)) n c') := ⟨_, rfl⟩
  obtain ⟨z4, h4⟩ : ∃ z, z = uI z3 (q + 24) (upd (z3.1 (q + 24)) 3 (nI (n + 1))) := ⟨_, rfl⟩
  have v1 : ∀ x, ¬ x = q + 25 → z1.1 x = s.1 x := fun x e => by rw [h1]; exact uI_ne _ _ _ _ e
  have v2 : ∀ x, ¬ x = q + 26 → z2.1 x = z1.1 x := fun x e => by rw [h2]; exact uI_ne _ _ _ _ e
  have v3 : ∀ x, ¬ x = q + 27 → z3.1 x = z2.1 x := fun x e => by rw [h3]; exact uI_ne _ _ _ _ e
  have v4 : ∀ x, ¬ x = q + 24 → z4.1 x = z3.1 x := fun x e => by rw [h4]; exact uI_ne _ _ _ _ e
  have w : ∀ x, ¬ (q + 24 ≤ x ∧ x ≤ q + 27) → z4.1 x = s.1 x := fun x e => by rw [v4 x (by omega), v3 x (by omega), v2 x (by omega), v1 x (by omega)]
  have s3 : z3.1 (q + 24) 3 = nI n := by rw [v3 _ (by omega), v2 _ (by omega), v1 _ (by omega), hs]
  refine ⟨z4, ?_, ?_, w 58 (by omega), w 75 (by omega), w 77 (by omega), w 78 (by omega), w (q + 23) (by omega), by rw [h4, h3, h2, h1]; rfl, ?_, fun j => ?_, fun j => ?_, fun j => ?_⟩
  · rw [e_1]
    unfold f_1 b_1_0 b_1_48
    rw [ycg_3 hq, hs, if_neg (show ¬ (3100 : Int32) ≤ nI n from nI_ge (b := 3100) hn (by decide)), ycg_0 hq, wys_25 hq hn, ← h1, ycg_1 hq, wys_26 hq hn, ← h2, ycg_2 hq, wys_27 hq hn, ← h3, ycg_3 hq, s3, nI_1, ycp_3 hq, ← h4]
  · rw [h4, h3, h2, h1]
    exact (((offG.w (by omega)).tr (offG.w (h := q + 26) (by omega))).tr (offG.w (h := q + 27) (by omega))).tr (offG.w (h := q + 24) (j := 3) (by omega))
  · rw [h4, uI_same, upd_g, if_pos rfl]
  · rw [v4 _ (by omega), v3 _ (by omega), v2 _ (by omega), h1, uI_same, upd_g]
  · rw [v4 _ (by omega), v3 _ (by omega), h2, uI_same, upd_g, v1 _ (by omega)]
  · rw [v4 _ (by omega), h3, uI_same, upd_g, v2 _ (by omega), v1 _ (by omega)]
/-- emit, when nothing is asked of the code -/
theorem x_1B (hq : isP q) (hs : s.1 (q + 24) 3 = nI n) (hn : n ≤ 3100) (a b c' : Int32) : ∃ s' n', mjF (d + 1) 1 [.ref (q + 24), .int a, .int b, .int c'] (mjW0 s) = some (some (.int (nI n)), mjW0 s') ∧ oC q s s' ∧ s'.1 58 = s.1 58 ∧ s'.1 75 = s.1 75 ∧ s'.1 (q + 24) 3 = nI n' ∧ n' ≤ 3100 := by
  by_cases h : n < 3100
  · obtain ⟨s', a1, a2, a3, a4, a5, a6, a7, a8, a9, _⟩ := x_1 (d := d) hq hs h a b c'
    exact ⟨s', n + 1, a1, a2, a3, a4, a9, by omega⟩
  · refine ⟨s, n, ?_, offG.rf, rfl, rfl, hs, hn⟩
    rw [e_1]
    unfold f_1 b_1_0 b_1_48
    rw [ycg_3 hq, hs, if_pos (show (3100 : Int32) ≤ nI n from nI_le (a := 3100) (by omega) (by omega))]
/-- aimHere -/
theorem x_2 (hq : isP q) (hs : s.1 (q + 24) 3 = nI n) (hm : m < 3100) : mjF (d + 1) 2 [.ref (q + 24), .int (nI m)] (mjW0 s) = some (none, mjW0 (uI s (q + 26) (upd (s.1 (q + 26)) m (nI n)))) := by
  rw [e_2]
  unfold f_2 b_2_0
  rw [if_neg (show ¬ (3100 : Int32) ≤ nI m from nI_ge (b := 3100) hm (by decide)), ycg_1 hq, ycg_3 hq, hs, wys_26 hq hm]
theorem x_2B (hq : isP q) (hs : s.1 (q + 24) 3 = nI n) (hm : m ≤ 3100) : ∃ s', mjF (d + 1) 2 [.ref (q + 24), .int (nI m)] (mjW0 s) = some (none, mjW0 s') ∧ oC q s s' ∧ s'.1 58 = s.1 58 ∧ s'.1 75 = s.1 75 ∧ s'.1 (q + 24) = s.1 (q + 24) := by
  have hq' : q = 2 ∨ q = 30 := hq
  by_cases h : m < 3100
  · exact ⟨_, x_2 hq hs h, offG.w (by omega), uI_ne _ _ _ _ (by omega), uI_ne _ _ _ _ (by omega), uI_ne _ _ _ _ (by omega)⟩
  · refine ⟨s, ?_, offG.rf, rfl, rfl, rfl⟩
    rw [e_2]
    unfold f_2 b_2_0
    rw [if_pos (show (3100 : Int32) ≤ nI m from nI_le (a := 3100) (by omega) (by omega))]
end MJA24
end
section
/-! ===== memberNamed, fits, hasThis ===== -/
section MJA25
variable {T : TT} {d N q c t n e k u v i m o w : Nat} {s s' : mjSt3} {L : List CD} {tr : Bool}
theorem L121_S (R : mjR) (n a : Nat) (b : Int64) (e f g : Int32) (hp : mjH) : L_121_6 R (n + 1) a b e f g hp = b_121_6 R (L_121_6 R n) a b e f g hp := rfl
theorem om_s (C : CB T N q L tr s) {K : Int64} (hc : c < L.length) (h : omT T L c K = some o) : o < nMem L ∧ hmM L o = c := by
  have := om_v C.2.1 hc h
  exact ⟨this.1, this.2.1⟩
theorem lq_121 (C : CB T N q L tr s) (ht : t ≤ N) (hT : (T t).1 = 3) (isM : Bool) : ∀ (r k n : Nat) (a : Option Nat), k + r = 16 → r < n → (∀ x, a = some x → x < L.length) → L_121_6 (mjF (d + 2)) n q (s.2.1 62 t) (b2 isM) (oI a) (nI k) (mjW0 s) = some (some (.int (oI ((anc (upT T L) r a).findSome? (fun a => match omT T L a (kyT T t) with
    | some m => if mSM L m = isM then some m else none
    | none => none)))), mjW0 s)
  | 0, k, n + 1, a, e, _, _ => by
    rw [L121_S]
    unfold b_121_6 b_121_66
    rw [if_pos (show (16 : Int32) ≤ nI k from nI_le (a := 16) (by omega) (by omega))]
    rfl
  | r + 1, k, n + 1, none, e, _, _ => by
    rw [L121_S]
    unfold b_121_6 b_121_66
    rw [if_neg (show ¬ (16 : Int32) ≤ nI k from nI_ge (b := 16) (by omega) (by decide)), oI_n, if_pos rfl]
    rfl
  | r + 1, k, n + 1, some x, e, hr, ha => by
    have hq := C.pq
    have hn := C.hn
    have h16 := hn.1
    have hx := ha x rfl
    have A : ABK T L q s := C.1.2.1
    have ih := lq_121 C ht hT isM r (k + 1) n (upT T L x) (by omega) (by omega) (fun y hy => up_lt hn hx hy)
    have x119 := x_119 (d := d + 1) hq C.2.1 C.2.2.2.1 C.1.1.2.1 h16 hx ht hT
    have ean : anc (upT T L) (r + 1) (some x) = x :: anc (upT T L) r (upT T L x) := rfl
    have e52 : b_121_52 (mjF (d + 2)) (L_121_6 (mjF (d + 2)) n) q (s.2.1 62 t) (b2 isM) (nI x) (nI k) (mjW0 s) = L_121_6 (mjF (d + 2)) n q (s.2.1 62 t) (b2 isM) (oI (upT T L x)) (nI (k + 1)) (mjW0 s) := by
      unfold b_121_52
      rw [yV hq, x_up hn hq A hx, bI_s, nI_1]
    rw [L121_S]
    unfold b_121_6
    rw [if_neg (show ¬ (16 : Int32) ≤ nI k from nI_ge (b := 16) (by omega) (by decide)), oI_s, if_neg (nI_m1 (by omega)), yV hq, x119, bI_s, ean, List.findSome?_cons, e52, ih]
    cases ho : omT T L x (kyT T t) with
    | none => rw [oI_n, if_pos rfl]
    | some o =>
      have ov := om_s C hx ho
      have d3 := C.2.1.2.2.1
      rw [oI_s, if_neg (nI_m1 (by omega)), yg_14 hq, ymg_4 hq, wya_18 hq (by omega), (C.2.1.2.2.2.2 o ov.1).2.2.2.2.2.1]
      by_cases g : mSM L o = isM
      · rw [if_pos (show b2 (mdM L o).2.2.1 = b2 isM from congrArg b2 g)]
        simp only [if_pos g]
        rfl
      · rw [if_neg (show ¬ b2 (mdM L o).2.2.1 = b2 isM from fun x => g (by
          show (mdM L o).2.2.1 = isM
          revert x
          cases (mdM L o).2.2.1 <;> cases isM <;> decide))]
        simp only [if_neg g]
/-- memberNamed -/
theorem x_121 (C : CB T N q L tr s) (hc : c < L.length) (ht : t ≤ N) (hT : (T t).1 = 3) (isM : Bool) : mjF (d + 3) 121 [.ref q, .int (nI c), .long (s.2.1 62 t), .int (b2 isM)] (mjW0 s) = some (some (.int (oI (memT T L c (kyT T t) isM))), mjW0 s) := by
  rw [e_121]
  unfold f_121 b_121_0
  exact lq_121 C ht hT isM 16 0 mjN (some c) (by omega) (by have := mjN_v; omega) (fun x hx => by cases hx; exact hc)
theorem mem_v (C : CB T N q L tr s) (hc : c < L.length) {K : Int64} {isM : Bool} (h : memT T L c K isM = some m) : m < nMem L ∧ mSM L m = isM ∧ ∃ v, vwT (nmL L) (abT T L) c (hmM L m) = some v := by
  obtain ⟨a, h1, h2⟩ := List.exists_of_findSome?_eq_some h
  cases ho : omT T L a K with
  | none => rw [ho] at h2; cases h2
  | some o =>
    rw [ho] at h2
    dsimp only at h2
    by_cases g : mSM L o = isM
    · rw [if_pos g] at h2
      cases h2
      have A := C.2.2.1
      have hh : a ∈ c :: anc (upT T L) 15 (upT T L c) := h1
      rcases List.mem_cons.mp hh with e | e
      · have ov := om_v C.2.1 (by rw [e]; exact hc) ho
        exact ⟨ov.1, g, by rw [ov.2.1, e]; exact ⟨_, vw_self A.1 hc⟩⟩
      · obtain ⟨al, w, hw⟩ := vw_anc A hc e
        have ov := om_v C.2.1 al ho
        exact ⟨ov.1, g, by rw [ov.2.1]; exact ⟨w, hw⟩⟩
    · rw [if_neg g] at h2; cases h2
/-- fits; TYPES 0 int, 1 null -/
def vTn (L : List CD) (t : Nat) : Prop := t = 1 ∨ vT L t
theorem vTn.lt (hn : HN T N L) (h : vTn L t) : t < 524290 := by
  rcases h with h | h
  · omega
  · exact h.lt hn
theorem x_123 (C : CB T N q L tr s) (ht : vTn L t) (hw : vT L w) : mjF (d + 3) 123 [.ref q, .int (tyI t), .int (tyI w)] (mjW0 s) = some (some (.int (b2 (fitT T L t w))), mjW0 s) := by
  have hq := C.pq
  have hn := C.hn
  have h16 := hn.1
  have wl := hw.lt hn
  rw [e_123]
  unfold f_123 b_123_0 b_123_25 b_123_67
  rcases ht with e | e
  · subst e
    rw [if_pos (show tyI 1 = -2 from rfl)]
    have e1 : tyI w = -1 ↔ w = 0 := tyI_eq (u := 0) wl (by decide)
    by_cases g : w = 0
    · rw [if_pos (e1.mpr g)]
      subst g
      rfl
    · rw [if_neg (fun x => g (e1.mp x))]
      have : fitT T L 1 w = true := by
        show decide (¬ w = 0) = true
        exact decide_eq_true g
      rw [this]
      rfl
  · have tl := e.lt hn
    rw [if_neg (show ¬ tyI t = -2 from fun x => by
      have := (tyI_eq (t := t) (u := 1) tl (by decide)).mp x
      rcases e with e | ⟨k, e, _⟩ <;> omega)]
    rcases e with e | ⟨k, e, vk⟩
    · subst e
      rw [if_pos (show tyI 0 < 0 by decide)]
      have e1 : tyI 0 = tyI w ↔ 0 = w := tyI_eq (by decide) wl
      have ef : fitT T L 0 w = decide (0 = w) := by
        match w with
        | 0 => rfl
        | 1 => rfl
        | w + 2 => rfl
      rw [ef]
      by_cases g : 0 = w
      · rw [if_pos (e1.mpr g), decide_eq_true g]; rfl
      · rw [if_neg (fun x => g (e1.mp x)), decide_eq_false g]; rfl
    · subst e
      rw [if_neg (show ¬ tyI (k + 2) < 0 from nI_pos (by have := vk.lt hn; omega))]
      rcases hw with g | ⟨x, g, vx⟩
      · subst g
        rw [if_neg (show ¬ (0 : Int32) ≤ tyI 0 by decide)]
        have : ¬ tyI (k + 2) = tyI 0 := fun x => by
          have := (tyI_eq tl (by decide)).mp x
          omega
        rw [if_neg this]
        rfl
      · subst g
        have kl := vk.lt hn
        have xl := vx.lt hn
        have kc := vk.cl hn
        have xc := vx.cl hn
        have V : VWS T L q s := C.1.2.2.2.1
        rw [if_pos (show (0 : Int32) ≤ tyI (x + 2) from nI_pos' (by omega)), show tyI (k + 2) = nI k from rfl, show tyI (x + 2) = nI x from rfl, x_105 (by omega), bI_s, x_105 (by omega), bI_s, yV hq, x_view hq (by omega) (by omega), bI_s, V _ (by omega) _ (by omega), if_pos kc]
        have ef : fitT T L (k + 2) (x + 2) = match vwT (nmL L) (abT T L) (cK k) (cK x) with
          | some v => decide (stand (nmL L) v k = x)
          | none => false := rfl
        rw [ef]
        cases hv : vwT (nmL L) (abT T L) (cK k) (cK x) with
        | none => rw [oI_n, if_pos (by decide)]; rfl
        | some v =>
          have vv := (vw_v hn kc hv).1
          have vl := vv.lt hn
          have sl := (vK.stand hn vv vk).lt hn
          rw [oI_s, if_neg (nI_pos (by omega)), yV hq, x_stand hq C.1.1.2.2.2.2.2.2.1 (by omega) (by omega) (by have := vv.cl hn; omega), bI_s]
          dsimp only
          by_cases g : stand (nmL L) v k = x
          · rw [if_pos (show nI (stand (nmL L) v k) = nI x by rw [g]), decide_eq_true g]; rfl
          · rw [if_neg (show ¬ nI (stand (nmL L) v k) = nI x from fun y => g ((nI_eq (by omega) (by omega)).mp y)), decide_eq_false g]; rfl
theorem L99_S (R : mjR) (n a : Nat) (b e f : Int32) (hp : mjH) : L_99_12 R (n + 1) a b e f hp = b_99_12 R (L_99_12 R n) a b e f hp := rfl
theorem lq_99 (C : CB T N q L tr s) (hm : m < nMem L) : ∀ (r i n : Nat), i + r = (psM L m).length → r < n → L_99_12 (mjF (d + 2)) n (q + 14) (nI m) (b2 (hasT (tyM T L m) || anyB (fun i => hasT (pyT T L m i)) i)) (nI i) (mjW0 s) = some (some (.int (b2 (hidM T L m))), mjW0 s)
  | 0, i, n + 1, e, _ => by
    have hq := C.pq
    have d3 := C.2.1.2.2.1
    have l6 : (psM L m).length ≤ 6 := (C.2.2.2.1 m hm).2.2.2.2.1
    rw [L99_S]
    unfold b_99_12
    rw [ymg_6 hq, wya_20 hq (by omega), (C.2.1.2.2.2.2 m hm).2.2.2.2.2.2, show (mdM L m).2.2.2.1.length = (psM L m).length from rfl, if_pos (nI_le (by omega) (by omega)), if_pos (b2_nar _), show i = (psM L m).length by omega]
    rfl
  | r + 1, i, n + 1, e, hr => by
    have hq := C.pq
    have hn := C.hn
    have d3 := C.2.1.2.2.1
    have l6 : (psM L m).length ≤ 6 := (C.2.2.2.1 m hm).2.2.2.2.1
    have ih := lq_99 C hm r (i + 1) n (by omega) (by omega)
    have ea : anyB (fun i => hasT (pyT T L m i)) (i + 1) = (anyB (fun i => hasT (pyT T L m i)) i || hasT (pyT T L m i)) := rfl
    rw [ea, ← Bool.or_assoc] at ih
    have vt := py_v (T := T) (i := i) hn (C.2.1.2.2.2.2 m hm).2.1
    rw [L99_S]
    unfold b_99_12 b_99_38 b_99_43
    rw [ymg_6 hq, wya_20 hq (by omega), (C.2.1.2.2.2.2 m hm).2.2.2.2.2.2, show (mdM L m).2.2.2.1.length = (psM L m).length from rfl, if_neg (nI_ge (by omega) (by omega)), b2_i, nI_1]
    cases hA : (hasT (tyM T L m) || anyB (fun i => hasT (pyT T L m i)) i) with
    | true =>
      rw [hA, Bool.true_or] at ih
      rw [if_pos rfl]
      exact ih
    | false =>
      rw [hA, Bool.false_or] at ih
      rw [if_neg (by decide), ymV hq, x_98 hq (by omega) (by omega), bI_s, (C.1.2.2.2.2.2.2.2.1 m hm).2 i (by omega), x_hasT (vt.lt hn), bI_s, b2_i]
      cases hB : hasT (pyT T L m i) with
      | true => rw [hB] at ih; rw [if_pos rfl]; exact ih
      | false => rw [hB] at ih; rw [if_neg (by decide)]; exact ih
/-- hasThis of a MEMBER -/
theorem x_99 (C : CB T N q L tr s) (hm : m < nMem L) : mjF (d + 3) 99 [.ref (q + 14), .int (nI m)] (mjW0 s) = some (some (.int (b2 (hidM T L m))), mjW0 s) := by
  have hq := C.pq
  have hn := C.hn
  have d3 := C.2.1.2.2.1
  have vt : vT L (tyM T L m) := ty_v hn (fun c hc => by cases hc; exact (C.2.1.2.2.2.2 m hm).2.1)
  have y : s.1 (q + 17) m = tyI (tyM T L m) := (C.1.2.2.2.2.2.2.2.1 m hm).1
  rw [e_99]
  unfold f_99 b_99_0
  rw [ymg_3 hq, wya_17 hq (by omega), y, x_hasT (vt.lt hn), bI_s]
  have := lq_99 (d := d) C hm (psM L m).length 0 mjN (by omega) (by have : (psM L m).length ≤ 6 := (C.2.2.2.1 m hm).2.2.2.2.1; have := mjN_v; omega)
  rw [show (hasT (tyM T L m) || anyB (fun i => hasT (pyT T L m i)) 0) = hasT (tyM T L m) by show (hasT (tyM T L m) || false) = _; rw [Bool.or_false]] at this
  exact this
end MJA25
end
section
/-! ===== the Coder's VARIABLES; what it does in a bad state ===== -/
abbrev VE : Type := Int64 × Nat × Nat × Nat
/-- the VARIABLES that are known -/
def VSr (T : TT) (N : Nat) (L : List CD) (vs : List VE) (td : Nat) (s : mjSt3) : Prop := s.1 75 11 = nI vs.length ∧ s.1 75 12 = nI td ∧ vs.length ≤ td ∧ td ≤ 16 ∧ ∀ (i : Nat) (e : VE), vs[i]? = some e → s.1 77 i = tyI e.2.1 ∧ s.1 78 i = nI e.2.2.1 ∧ vT L e.2.1 ∧ e.2.2.1 < td ∧ ∃ t, t ≤ N ∧ (T t).1 = 3 ∧ kyT T t = e.1 ∧ s.2.1 76 i = s.2.1 62 t
def vsI (vs : List VE) (n : Int64) : Option Nat := fnd (fun i => match vs[i]? with
  | some e => decide (e.1 = n)
  | none => false) vs.length
theorem vsI_K (vs : List VE) (n : Int64) : vsK vs n = match vsI vs n with
    | none => none
    | some i => vs[i]? := by
  unfold vsK vsI
  cases hf : fnd (fun i => match vs[i]? with
    | some e => decide (e.1 = n)
    | none => false) vs.length with
  | none =>
    refine List.find?_eq_none.mpr (fun x hx => ?_)
    obtain ⟨i, hi, e⟩ := List.getElem_of_mem hx
    have := fnd_none.mp hf i hi
    rw [List.getElem?_eq_getElem hi, e] at this
    simpa using this
  | some i =>
    obtain ⟨a, b, c⟩ := fnd_some.mp hf
    rw [List.getElem?_eq_getElem a] at b
    show List.find? _ vs = vs[i]?
    rw [List.getElem?_eq_getElem a]
    refine List.find?_eq_some_iff_getElem.mpr ⟨by simpa using b, i, a, rfl, fun j hj => ?_⟩
    have := c j hj
    rw [List.getElem?_eq_getElem (by omega)] at this
    simpa using this
/-- a bad state of the Coder -/
def BC (T : TT) (N q : Nat) (L : List CD) (tr : Bool) (s : mjSt3) : Prop := CB T N q L tr s ∧ bdd N s ∧ (∃ n, n ≤ 3100 ∧ s.1 (q + 24) 3 = nI n) ∧ ∃ k, k ≤ 16 ∧ s.1 75 11 = nI k
section MJA26
variable {T : TT} {d N q c t n e k u v i m o w : Nat} {s s' : mjSt3} {L : List CD} {tr : Bool} {vs : List VE} {td : Nat}
theorem L18_S (R : mjR) (n a : Nat) (b : Int64) (e : Int32) (hp : mjH) : L_18_2 R (n + 1) a b e hp = b_18_2 R (L_18_2 R n) a b e hp := rfl
theorem lq_18 (h : s.1 75 11 = nI k) (hk : k ≤ 16) (R : mjR) (key : Int64) : ∀ (r i m : Nat), i + r = k → r < m → (∀ j, j < i → ¬ s.2.1 76 j = key) → L_18_2 R m 75 key (nI i) (mjW0 s) = some (some (.int (oI (fnd (fun c => decide (s.2.1 76 c = key)) k))), mjW0 s)
  | 0, i, m + 1, e, _, hb => by
    rw [L18_S]
    unfold b_18_2
    rw [xg_75_11, h, if_pos (nI_le (by omega) (by omega)), fnd_none.mpr (fun j hj => by simpa using hb j (by omega))]
    rfl
  | r + 1, i, m + 1, e, hr, hb => by
    rw [L18_S]
    unfold b_18_2
    rw [xg_75_11, h, if_neg (nI_ge (by omega) (by omega)), xg_75_8, wa_76 (by omega)]
    by_cases ek : s.2.1 76 i = key
    · rw [if_pos ((lg_cmp_eq _ _).mpr ek), show fnd (fun c => decide (s.2.1 76 c = key)) k = some i from fnd_some.mpr ⟨by omega, by simpa using ek, fun j hj => by simpa using hb j hj⟩]
      rfl
    · rw [if_neg (fun x => ek ((lg_cmp_eq _ _).mp x)), nI_1]
      refine lq_18 h hk R key r (i + 1) m (by omega) (by omega) (fun j hj => ?_)
      by_cases g : j = i
      · rw [g]; exact ek
      · exact hb j (by omega)
theorem x_18 (h : s.1 75 11 = nI k) (hk : k ≤ 16) (key : Int64) : mjF (d + 1) 18 [.ref 75, .long key] (mjW0 s) = some (some (.int (oI (fnd (fun c => decide (s.2.1 76 c = key)) k))), mjW0 s) := by
  rw [e_18]
  unfold f_18 b_18_0
  exact lq_18 h hk _ key k 0 mjN (by omega) (by have := mjN_v; omega) (fun j hj => absurd hj (by omega))
theorem fn_vs (hk : KY T N s) (V : VSr T N L vs td s) (ht : t ≤ N) (hT : (T t).1 = 3) : fnd (fun c => decide (s.2.1 76 c = s.2.1 62 t)) vs.length = vsI vs (kyT T t) := by
  refine fnd_cg (fun i hi => ?_)
  have e := List.getElem?_eq_getElem hi
  obtain ⟨_, _, _, _, t', a1, a2, a3, a4⟩ := V.2.2.2.2 i _ e
  rw [e, a4]
  show _ = decide (vs[i].1 = kyT T t)
  rw [← a3]
  exact decide_eq_decide.mpr (hk.2.2.1 _ _ a1 ht (Or.inr a2) (Or.inr hT))
/-- knownHere -/
theorem x_17 (hT : TH T N s) (hk : KY T N s) (V : VSr T N L vs td s) (f : fne s c) (hc : c < N) (h3 : (T c).1 = 3) : (∀ i, vsI vs (kyT T c) = some i → mjF (d + 2) 17 [.ref 75] (mjW0 s) = some (some (.int (nI i)), mjW0 (tkGo s (c + 1)))) ∧ (vsI vs (kyT T c) = none → ∃ s', mjF (d + 2) 17 [.ref 75] (mjW0 s) = some (some (.int (-1)), mjW0 s') ∧ bdd N s' ∧ o58 s s') := by
  have l16 : vs.length ≤ 16 := by have := V.2.2.1; have := V.2.2.2.1; omega
  have pre : mjF (d + 2) 17 [.ref 75] (mjW0 s) = _ := e_17 (d := d + 1)
  unfold f_17 b_17_0 b_17_32 at pre
  rw [xg_75_0, xg_75_0, xV_58, j_now hT f.1 (by omega), bI_s, xV_58, j_key hT f.1 (by omega) (by omega), bL_s, xV_75, x_18 V.1 l16, bI_s, fn_vs hk V (by omega) h3] at pre
  refine ⟨fun i hi => ?_, fun hi => ?_⟩
  · have := fnd_lt hi
    rw [hi, oI_s, if_neg (nI_m1 (by omega)), xg_75_0, xV_58, j_skip hT f hc, bN_s] at pre
    exact pre
  · rw [hi, oI_n, if_pos rfl, xg_75_0, xV_58] at pre
    obtain ⟨z, z1, z2, z3⟩ := j_ref (d := d) (k := 5) hT f (by omega) (by decide)
    have hz := hT.o58 z3
    rw [z1, bN_s, xg_75_0, xV_58, j_skipB hz z2, bN_s] at pre
    exact ⟨z, pre, z2, z3⟩
/-! in a bad state -/
theorem BC.oo (B : BC T N q L tr s) (x : oC q s s') (b : bdd N s') (n1 : ∃ n, n ≤ 3100 ∧ s'.1 (q + 24) 3 = nI n) (k1 : ∃ k, k ≤ 16 ∧ s'.1 75 11 = nI k) : BC T N q L tr s' := ⟨B.1.oC x, b, n1, k1⟩
theorem BC.of58 (C : CB T N q L tr s) (x : o58 s s') (b : bdd N s') (n1 : ∃ n, n ≤ 3100 ∧ s.1 (q + 24) 3 = nI n) (k1 : ∃ k, k ≤ 16 ∧ s.1 75 11 = nI k) : BC T N q L tr s' := by
  have hq : q = 2 ∨ q = 30 := C.pq
  exact ⟨C.oC x.C, b, by rw [x.r (by omega)]; exact n1, by rw [x.r (by omega)]; exact k1⟩
theorem n_emit (B : BC T N q L tr s) (a b c' : Int32) : ∃ s' n', mjF (d + 1) 1 [.ref (q + 24), .int a, .int b, .int c'] (mjW0 s) = some (some (.int (nI n')), mjW0 s') ∧ n' ≤ 3100 ∧ BC T N q L tr s' ∧ oC q s s' ∧ s'.1 75 = s.1 75 := by
  obtain ⟨C, bb, ⟨n, n1, n2⟩, k1⟩ := id B
  obtain ⟨s', m, a1, a2, a3, a4, a5, a6⟩ := x_1B (d := d) C.pq n2 n1 a b c'
  exact ⟨s', n, a1, n1, B.oo a2 ⟨by rw [a3]; exact bb.1, by rw [a3]; exact bb.2⟩ ⟨m, a6, a5⟩ (by rw [a4]; exact k1), a2, a4⟩
theorem xcV {u : mjU} (hq : isP q) : rV (mjW0 s) (q + 24) 0 u = u := ycV hq
theorem kN0 (B : BC T N q L tr s) {k : Int32} (h : ¬ k = 0) : mjF (d + 1) 164 [.ref 58, .int k] (mjW0 s) = some (some (.int 0), mjW0 s) := by
  have hT := B.1.1.1.1
  rw [j_is hT B.2.1.1 (Nat.le_refl N), if_neg (by rw [hT.2.2.1]; exact fun x => h x.symm)]
theorem sz0 (hT : TH T N s) (f : s.1 58 6 = nI c) (hc : c ≤ N) : mjF (d + 1) 171 [.ref 58] (mjW0 s) = some (some (.int (nI (N + 1))), mjW0 s) := x_size ⟨f, hT.1, by omega, by have := hT.2.1; omega⟩
theorem n_16 (B : BC T N q L tr s) : ∃ s', mjF (d + 2) 16 [.ref 75] (mjW0 s) = some (some (.int (-1)), mjW0 s') ∧ BC T N q L tr s' ∧ oC q s s' ∧ s'.1 75 = s.1 75 := by
  have hT := B.1.1.1.1
  have C := B.1
  have pre : mjF (d + 2) 16 [.ref 75] (mjW0 s) = _ := e_16 (d := d + 1)
  unfold f_16 b_16_0 at pre
  have k0 : mjF (d + 1) 173 [.ref 58] (mjW0 s) = some (some (.int 0), mjW0 s) := by
    rw [x_kindNow (tk_b hT B.2.1), (hT.2.2.2 N (Nat.le_refl N)).1, hT.2.2.1]
  rw [xg_75_0, xV_58, k0, bI_s, if_neg (by decide), if_neg (by decide), if_neg (by decide), if_neg (by decide), if_neg (by decide), xg_75_5, C.2.2.2.2.2.2.2, xg_75_0, xg_75_0, xV_58, j_now hT B.2.1.1 (Nat.le_refl N), bI_s, xV_58, j_key hT B.2.1.1 (Nat.le_refl N) (Nat.le_refl N), bL_s, ycV C.pq] at pre
  obtain ⟨z, n', z1, z2, z3, z4, z5⟩ := n_emit (d := d) B 0 ((s.2.1 62 N).toInt32) (-1)
  rw [z1, bI_s, xg_75_0, xV_58, j_skipB z3.1.1.1.1 z3.2.1, bN_s] at pre
  exact ⟨z, pre, z3, z4, z5⟩
theorem L15_S (R : mjR) (n a : Nat) (b e f : Int32) (hp : mjH) : L_15_17 R (n + 1) a b e f hp = b_15_17 R (L_15_17 R n) a b e f hp := rfl
theorem n_15l (B : BC T N q L tr s) (n : Nat) (a b e : Int32) : L_15_17 (mjF (d + 1)) (n + 1) 75 a b e (mjW0 s) = some (some (.int b), mjW0 s) := by
  have hT := B.1.1.1.1
  rw [L15_S]
  unfold b_15_17 b_15_145
  rw [xg_75_0, xV_58, sz0 hT B.2.1.1 (Nat.le_refl N), bI_s, xg_75_0, xV_58, kN0 B (by decide), bI_s, if_pos rfl, xg_75_0, xV_58, kN0 B (by decide), bI_s, if_pos rfl, ite_self]
theorem n_15 (B : BC T N q L tr s) : ∃ s', mjF (d + 3) 15 [.ref 75] (mjW0 s) = some (some (.int (-1)), mjW0 s') ∧ BC T N q L tr s' ∧ oC q s s' ∧ s'.1 75 = s.1 75 := by
  obtain ⟨z, z1, z2, z3, z4⟩ := n_16 (d := d) B
  refine ⟨z, ?_, z2, z3, z4⟩
  rw [e_15]
  unfold f_15 b_15_0
  rw [xg_75_0, xV_58, kN0 B (by decide), bI_s, xV_75, z1, bI_s, show mjN = 99999999 + 1 from rfl, n_15l z2]
theorem n_14 (B : BC T N q L tr s) : ∃ s', mjF (d + 4) 14 [.ref 75] (mjW0 s) = some (some (.int (-1)), mjW0 s') ∧ BC T N q L tr s' ∧ oC q s s' ∧ s'.1 75 = s.1 75 := by
  obtain ⟨z, z1, z2, z3, z4⟩ := n_15 (d := d) B
  refine ⟨z, ?_, z2, z3, z4⟩
  rw [e_14]
  unfold f_14 b_14_0
  rw [xg_75_0, xV_58, kN0 B (by decide), bI_s, if_pos rfl, xV_75, z1, bI_s]
theorem L13_S (R : mjR) (n a : Nat) (b e : Int32) (hp : mjH) : L_13_7 R (n + 1) a b e hp = b_13_7 R (L_13_7 R n) a b e hp := rfl
theorem L12_S (R : mjR) (n a : Nat) (b e : Int32) (hp : mjH) : L_12_7 R (n + 1) a b e hp = b_12_7 R (L_12_7 R n) a b e hp := rfl
theorem n_13 (B : BC T N q L tr s) : ∃ s', mjF (d + 5) 13 [.ref 75] (mjW0 s) = some (some (.int (-1)), mjW0 s') ∧ BC T N q L tr s' ∧ oC q s s' ∧ s'.1 75 = s.1 75 := by
  obtain ⟨z, z1, z2, z3, z4⟩ := n_14 (d := d) B
  refine ⟨z, ?_, z2, z3, z4⟩
  have hT := z2.1.1.1.1
  have k60 : z.1 60 N = 0 := by rw [(hT.2.2.2 N (Nat.le_refl N)).1, hT.2.2.1]
  rw [e_13]
  unfold f_13 b_13_0
  rw [xV_75, z1, bI_s, show mjN = 99999999 + 1 from rfl, L13_S]
  unfold b_13_7 b_13_65
  rw [xg_75_0, xV_58, sz0 hT z2.2.1.1 (Nat.le_refl N), bI_s, xg_75_0, xV_58, x_product (tk_b hT z2.2.1), bI_s, k60, i01, if_neg (show ¬ ((0 : Int32) = 42 ∨ (0 : Int32) = 47 ∨ (0 : Int32) = 37) by decide), ite_self]
theorem n_12 (B : BC T N q L tr s) : ∃ s', mjF (d + 6) 12 [.ref 75] (mjW0 s) = some (some (.int (-1)), mjW0 s') ∧ BC T N q L tr s' ∧ oC q s s' ∧ s'.1 75 = s.1 75 := by
  obtain ⟨z, z1, z2, z3, z4⟩ := n_13 (d := d) B
  refine ⟨z, ?_, z2, z3, z4⟩
  have hT := z2.1.1.1.1
  have k60 : z.1 60 N = 0 := by rw [(hT.2.2.2 N (Nat.le_refl N)).1, hT.2.2.1]
  rw [e_12]
  unfold f_12 b_12_0
  rw [xV_75, z1, bI_s, show mjN = 99999999 + 1 from rfl, L12_S]
  unfold b_12_7 b_12_65
  rw [xg_75_0, xV_58, sz0 hT z2.2.1.1 (Nat.le_refl N), bI_s, xg_75_0, xV_58, x_sum (tk_b hT z2.2.1), bI_s, k60, i01, if_neg (show ¬ ((0 : Int32) = 43 ∨ (0 : Int32) = 45) by decide), ite_self]
theorem n_11 (B : BC T N q L tr s) : ∃ s', mjF (d + 7) 11 [.ref 75] (mjW0 s) = some (some (.int (-1)), mjW0 s') ∧ BC T N q L tr s' ∧ oC q s s' ∧ s'.1 75 = s.1 75 := by
  obtain ⟨z, z1, z2, z3, z4⟩ := n_12 (d := d) B
  refine ⟨z, ?_, z2, z3, z4⟩
  have hT := z2.1.1.1.1
  have k60 : z.1 60 N = 0 := by rw [(hT.2.2.2 N (Nat.le_refl N)).1, hT.2.2.1]
  rw [e_11]
  unfold f_11 b_11_0
  rw [xV_75, z1, bI_s, xg_75_0, xV_58, x_compare (tk_b hT z2.2.1), bI_s, k60, if_pos (by decide)]
/-- codeFitting -/
theorem n_32 (B : BC T N q L tr s) (w : Int32) : ∃ s', mjF (d + 8) 32 [.ref 75, .int w] (mjW0 s) = some (none, mjW0 s') ∧ BC T N q L tr s' ∧ oC q s s' ∧ s'.1 75 = s.1 75 := by
  obtain ⟨z, z1, z2, z3, z4⟩ := n_11 (d := d) B
  refine ⟨z, ?_, z2, z3, z4⟩
  have hT := B.1.1.1.1
  have hz := z2.1.1.1.1
  have f : ∃ b : Int32, mjF (d + 7) 123 [.ref q, .int (-1), .int w] (mjW0 z) = some (some (.int b), mjW0 z) := by
    rw [e_123]
    unfold f_123 b_123_0 b_123_25
    rw [if_neg (by decide), if_pos (by decide)]
    by_cases g : (-1 : Int32) = w
    · exact ⟨1, by rw [if_pos g]⟩
    · exact ⟨0, by rw [if_neg g]⟩
  obtain ⟨b, hb⟩ := f
  rw [e_32]
  unfold f_32 b_32_0 b_32_40
  rw [xg_75_0, xV_58, j_now hT B.2.1.1 (Nat.le_refl N), bI_s, xg_75_0, xV_58, j_skipB hT B.2.1, bN_s, xg_75_3, B.1.2.2.2.2.2.1, xV_75, z1, bI_s, yV B.1.pq, hb, bI_s, xg_75_0, xV_58, j_atB hz z2.2.1, bN_s, xg_75_0, xV_58, j_skipB hz z2.2.1, bN_s, ite_self]
theorem L7_S (R : mjR) (n a : Nat) (b e : Int32) (hp : mjH) : L_7_14 R (n + 1) a b e hp = b_7_14 R (L_7_14 R n) a b e hp := rfl
/-- codeBlock -/
theorem n_7l (B : BC T N q L tr s) (hk : k ≤ 16) (n : Nat) (i : Int32) : ∃ s', L_7_14 (mjF (d + 1)) (n + 1) 75 (nI k) i (mjW0 s) = some (none, mjW0 s') ∧ BC T N q L tr s' ∧ oC q s s' := by
  have hT := B.1.1.1.1
  obtain ⟨z, hz⟩ : ∃ z, z = uI s 75 (upd (s.1 75) 11 (nI k)) := ⟨_, rfl⟩
  have oz : oC q s z := by rw [hz]; exact offG.w (Or.inr (Or.inl ⟨rfl, by omega, by omega⟩))
  have hq : q = 2 ∨ q = 30 := B.1.pq
  refine ⟨z, ?_, B.oo oz ?_ ?_ ⟨k, hk, by rw [hz, uI_same, upd_g, if_pos rfl]⟩, oz⟩
  · have e57 : b_7_57 (mjF (d + 1)) 75 (nI k) (mjW0 s) = some (none, mjW0 z) := by
      unfold b_7_57
      rw [xg_75_0, xV_58, j_skipB hT B.2.1, bN_s, xp_75_11, hz]
    rw [L7_S]
    unfold b_7_14
    rw [xg_75_0, xV_58, sz0 hT B.2.1.1 (Nat.le_refl N), bI_s, xg_75_0, xV_58, kN0 B (by decide), bI_s, if_pos rfl, xg_75_0, xV_58, j_fineB B.2.1, bI_s, if_pos rfl, e57, ite_self]
  · rw [hz]; exact ⟨by rw [uI_ne _ _ _ _ (by decide)]; exact B.2.1.1, by rw [uI_ne _ _ _ _ (by decide)]; exact B.2.1.2⟩
  · rw [hz, uI_ne _ _ _ _ (by omega)]; exact B.2.2.1
theorem n_7 (B : BC T N q L tr s) : ∃ s', mjF (d + 2) 7 [.ref 75] (mjW0 s) = some (none, mjW0 s') ∧ BC T N q L tr s' ∧ oC q s s' := by
  have hT := B.1.1.1.1
  obtain ⟨k, k1, k2⟩ := B.2.2.2
  obtain ⟨z, z1, z2, z3⟩ := n_7l (d := d) B k1 99999999 0
  refine ⟨z, ?_, z2, z3⟩
  rw [e_7]
  unfold f_7 b_7_0
  rw [xg_75_11, k2, xg_75_0, xV_58, j_skipB hT B.2.1, bN_s]
  exact z1
/-- codeCondition -/
theorem n_10 (B : BC T N q L tr s) : ∃ s' n', mjF (d + 8) 10 [.ref 75] (mjW0 s) = some (some (.int (nI n')), mjW0 s') ∧ n' ≤ 3100 ∧ BC T N q L tr s' ∧ oC q s s' := by
  have hT := B.1.1.1.1
  obtain ⟨z, z1, z2, z3, z4⟩ := n_11 (d := d) B
  have hz := z2.1.1.1.1
  obtain ⟨y, n', y1, y2, y3, y4, y5⟩ := n_emit (d := d + 6) z2 7 0 (-1)
  refine ⟨y, n', ?_, y2, y3, z3.tr y4⟩
  have e27 : mjF (d + 7) 27 [.ref 75, .int (-1), .int (nI N)] (mjW0 z) = some (none, mjW0 z) := by
    rw [e_27]
    unfold f_27 b_27_0
    rw [if_pos rfl]
  rw [e_10]
  unfold f_10 b_10_0
  rw [xg_75_0, xV_58, j_now hT B.2.1.1 (Nat.le_refl N), bI_s, xg_75_0, xV_58, j_skipB hT B.2.1, bN_s, xg_75_0, xV_58, j_skipB hT B.2.1, bN_s, xV_75, z1, bI_s, xV_75, e27, bN_s, xg_75_0, xV_58, j_skipB hz z2.2.1, bN_s, xg_75_5, z2.1.2.2.2.2.2.2.2, ycV B.1.pq, y1, bI_s]
/-- know -/
theorem n_6 (B : BC T N q L tr s) (key : Int64) (w : Int32) : ∃ s', mjF (d + 1) 6 [.ref 75, .long key, .int w] (mjW0 s) = some (none, mjW0 s') ∧ BC T N q L tr s' ∧ oC q s s' := by
  obtain ⟨k, k1, k2⟩ := B.2.2.2
  have hq : q = 2 ∨ q = 30 := B.1.pq
  have pre : mjF (d + 1) 6 [.ref 75, .long key, .int w] (mjW0 s) = _ := e_6 (d := d)
  unfold f_6 b_6_0 at pre
  rw [xg_75_11, k2, xg_75_8, xN_76] at pre
  by_cases h : k = 16
  · rw [if_pos (show Int32.ofNat 16 ≤ nI k by rw [h]; decide)] at pre
    exact ⟨s, pre, B, offG.rf⟩
  · rw [if_neg (show ¬ Int32.ofNat 16 ≤ nI k from nI_ge (b := 16) (by omega) (by decide)), xg_75_8, xg_75_11, k2, ws_76 (by omega)] at pre
    obtain ⟨z1, h1⟩ : ∃ z, z = uL s 76 (vp_updL (s.2.1 76) k key) := ⟨_, rfl⟩
    have e1 : z1.1 = s.1 := by rw [h1]; rfl
    rw [← h1, xg_75_9, xg_75_11, e1, k2, ws_77 (by omega)] at pre
    obtain ⟨z2, h2⟩ : ∃ z, z = uI z1 77 (upd (z1.1 77) k w) := ⟨_, rfl⟩
    have e2 : z2.1 75 = s.1 75 := by rw [h2, uI_ne _ _ _ _ (by decide), e1]
    rw [← h2, xg_75_10, xg_75_11, e2, k2, xg_75_12, e2, ws_78 (by omega)] at pre
    obtain ⟨z3, h3⟩ : ∃ z, z = uI z2 78 (upd (z2.1 78) k (s.1 75 12)) := ⟨_, rfl⟩
    have e3 : z3.1 75 = s.1 75 := by rw [h3, uI_ne _ _ _ _ (by decide), e2]
    rw [← h3, xg_75_11, e3, k2, nI_1, xp_75_11] at pre
    obtain ⟨z4, h4⟩ : ∃ z, z = uI z3 75 (upd (z3.1 75) 11 (nI (k + 1))) := ⟨_, rfl⟩
    rw [← h4, xg_75_12, xp_75_12] at pre
    obtain ⟨z5, h5⟩ : ∃ z, z = uI z4 75 (upd (z4.1 75) 12 (z4.1 75 12 + 1)) := ⟨_, rfl⟩
    rw [← h5] at pre
    have o1 : oC q s z1 := by rw [h1]; exact offG.wl rfl
    have o2 : oC q z1 z2 := by rw [h2]; exact offG.w (Or.inr (Or.inr (Or.inl rfl)))
    have o3 : oC q z2 z3 := by rw [h3]; exact offG.w (Or.inr (Or.inr (Or.inr (Or.inl rfl))))
    have o4 : oC q z3 z4 := by rw [h4]; exact offG.w (Or.inr (Or.inl ⟨rfl, by omega, by omega⟩))
    have o5 : oC q z4 z5 := by rw [h5]; exact offG.w (Or.inr (Or.inl ⟨rfl, by omega, by omega⟩))
    have ox : oC q s z5 := o1.tr (o2.tr (o3.tr (o4.tr o5)))
    have r5 : ∀ x, ¬ x = 75 → ¬ x = 77 → ¬ x = 78 → z5.1 x = s.1 x := fun x a b c => by rw [h5, uI_ne _ _ _ _ a, h4, uI_ne _ _ _ _ a, h3, uI_ne _ _ _ _ c, h2, uI_ne _ _ _ _ b, e1]
    refine ⟨z5, pre, B.oo ox ⟨by rw [r5 58 (by decide) (by decide) (by decide)]; exact B.2.1.1, by rw [r5 58 (by decide) (by decide) (by decide)]; exact B.2.1.2⟩ (by rw [r5 _ (by omega) (by omega) (by omega)]; exact B.2.2.1) ⟨k + 1, by omega, ?_⟩, ox⟩
    rw [h5, uI_same, upd_g, if_neg (by decide), h4, uI_same, upd_g, if_pos rfl]
/-- newNameHere -/
theorem n_33 (B : BC T N q L tr s) : ∃ key, mjF (d + 2) 33 [.ref 75] (mjW0 s) = some (some (.long key), mjW0 s) := by
  have hT := B.1.1.1.1
  obtain ⟨k, k1, k2⟩ := B.2.2.2
  refine ⟨s.2.1 62 N, ?_⟩
  rw [e_33]
  unfold f_33 b_33_0 b_33_32
  rw [xg_75_0, xg_75_0, xV_58, j_now hT B.2.1.1 (Nat.le_refl N), bI_s, xV_58, j_key hT B.2.1.1 (Nat.le_refl N) (Nat.le_refl N), bL_s, xV_75, x_18 k2 k1, bI_s]
  by_cases g : oI (fnd (fun c => decide (s.2.1 76 c = s.2.1 62 N)) k) = -1
  · rw [if_pos g, xg_75_0, xV_58, j_skipB hT B.2.1, bN_s]
  · rw [if_neg g, xg_75_0, xV_58, j_refB hT B.2.1, bN_s, xg_75_0, xV_58, j_skipB hT B.2.1, bN_s]
/-- codeLeft -/
theorem n_34 (B : BC T N q L tr s) : ∃ s', mjF (d + 8) 34 [.ref 75] (mjW0 s) = some (some (.int 5), mjW0 s') ∧ BC T N q L tr s' ∧ oC q s s' := by
  have hT := B.1.1.1.1
  have hq : q = 2 ∨ q = 30 := B.1.pq
  obtain ⟨z, z1, z2, z3, z4⟩ := n_11 (d := d) B
  have pre : mjF (d + 8) 34 [.ref 75] (mjW0 s) = _ := e_34 (d := d + 7)
  unfold f_34 b_34_0 b_34_62 b_34_96 at pre
  rw [xg_75_0, xV_58, kN0 B (by decide), bI_s, if_pos rfl, xV_75, z1, bI_s, xp_75_16] at pre
  obtain ⟨y, hy⟩ : ∃ y, y = uI z 75 (upd (z.1 75) 16 (-1)) := ⟨_, rfl⟩
  have oy : oC q z y := by rw [hy]; exact offG.w (by omega)
  have by_ : BC T N q L tr y := z2.oo oy (by rw [hy]; exact ⟨by rw [uI_ne _ _ _ _ (by decide)]; exact z2.2.1.1, by rw [uI_ne _ _ _ _ (by decide)]; exact z2.2.1.2⟩) (by rw [hy, uI_ne _ _ _ _ (by omega)]; exact z2.2.2.1) (by rw [hy, uI_same]; exact z2.2.2.2)
  rw [← hy, xg_75_0, xV_58, kN0 by_ (by decide), bI_s, if_pos rfl, xg_75_0, xV_58, j_skipB by_.1.1.1.1 by_.2.1, bN_s, xV_75, e_25 (d := d + 6)] at pre
  unfold f_25 b_25_0 at pre
  rw [xp_75_13, xp_75_14, xp_75_15, bN_s, xg_75_13] at pre
  obtain ⟨x1, h1⟩ : ∃ x, x = uI y 75 (upd (y.1 75) 13 5) := ⟨_, rfl⟩
  obtain ⟨x2, h2⟩ : ∃ x, x = uI x1 75 (upd (x1.1 75) 14 0) := ⟨_, rfl⟩
  obtain ⟨x3, h3⟩ : ∃ x, x = uI x2 75 (upd (x2.1 75) 15 (-1)) := ⟨_, rfl⟩
  rw [← h1, ← h2, ← h3] at pre
  have ox : oC q y x3 := by
    rw [h3, h2, h1]
    exact ((offG.w (by omega)).tr (offG.w (h := 75) (j := 14) (by omega))).tr (offG.w (h := 75) (j := 15) (by omega))
  have r3 : ∀ x, ¬ x = 75 → x3.1 x = y.1 x := fun x a => by rw [h3, uI_ne _ _ _ _ a, h2, uI_ne _ _ _ _ a, h1, uI_ne _ _ _ _ a]
  have g3 : ∀ j, ¬ j = 13 → ¬ j = 14 → ¬ j = 15 → x3.1 75 j = y.1 75 j := fun j a b c => by rw [h3, uI_same, upd_g, if_neg c, h2, uI_same, upd_g, if_neg b, h1, uI_same, upd_g, if_neg a]
  have e13 : x3.1 75 13 = 5 := by rw [h3, uI_same, upd_g, if_neg (by decide), h2, uI_same, upd_g, if_neg (by decide), h1, uI_same, upd_g, if_pos rfl]
  refine ⟨x3, by rw [pre, e13], by_.oo ox ⟨by rw [r3 58 (by decide)]; exact by_.2.1.1, by rw [r3 58 (by decide)]; exact by_.2.1.2⟩ (by rw [r3 _ (by omega)]; exact by_.2.2.1) (by rw [g3 11 (by decide) (by decide) (by decide)]; exact by_.2.2.2), z3.tr (oy.tr ox)⟩
end MJA26
end
section
/-! ===== the Coder and the orders of an E ===== -/
/-- what an E's code changes -/
def oE (q : Nat) : mjSt3 → mjSt3 → Prop := offG (fun h j => c58 h j ∨ (h = q + 24 ∧ j = 3) ∨ (q + 25 ≤ h ∧ h ≤ q + 27)) (fun _ _ => False)
/-- instructions that stand from cs on; those ahead of cs are as they were -/
def CL (q : Nat) (s : mjSt3) (cs : Nat) (l : List Ins) : Prop := ∀ (j : Nat) (x : Ins), l[j]? = some x → s.1 (q + 25) (cs + j) = x.1 ∧ s.1 (q + 26) (cs + j) = x.2.1 ∧ s.1 (q + 27) (cs + j) = x.2.2
def CP (q cs : Nat) (s s' : mjSt3) : Prop := ∀ j, j < cs → s'.1 (q + 25) j = s.1 (q + 25) j ∧ s'.1 (q + 26) j = s.1 (q + 26) j ∧ s'.1 (q + 27) j = s.1 (q + 27) j
/-- where the Coder stands: its CLASS, its VARIABLES, the length of the code -/
def CE (E : EV) (N q : Nat) (s : mjSt3) (j : JS) (cs : Nat) : Prop := CB E.1 N q E.2.1 E.2.2.1 s ∧ s.1 75 6 = oI E.2.2.2.2.1 ∧ (∀ c, E.2.2.2.2.1 = some c → c < E.2.1.length) ∧ VSr E.1 N E.2.1 j.2.2.1 j.2.2.2.1 s ∧ s.1 (q + 24) 3 = nI cs
/-- KINDS by their numbers; arguments by their tokens -/
def KT (kt : Int32 → Nat) (kq : Nat) (l : List Nat) : Prop := ∀ (j t : Nat), l[j]? = some t → kt (nI (kq + j)) = t
def AG (s : mjSt3) (l : List (Nat × Nat)) : Prop := ∀ e, e ∈ l → s.1 63 e.1 = nI e.2
/-- an E's TYPE on what waits -/
def jE (j : JS) (t : Nat) (al : Bool) : JS := ((t, al) :: j.1, j.2.1, j.2.2.1, j.2.2.2.1, j.2.2.2.2.1, j.2.2.2.2.2.1, j.2.2.2.2.2.2.1, t :: jRS j)
/-- behind the orders os, of tokens from c0 on: the Coder is at c -/
def atC (E : EV) (N q : Nat) (s0 : mjSt3) (c0 cs : Nat) (j0 : JS) (os : List Row) (s : mjSt3) (c : Nat) (t : Nat) (al : Bool) (l : List Ins) : Prop := jrun E os j0 = some (jE j0 t al, l) ∧ vTn E.2.1 t ∧ fne s c ∧ s.1 (q + 24) 3 = nI (cs + l.length) ∧ CL q s cs l ∧ CP q cs s0 s ∧ oE q s0 s ∧ l.length + c0 ≤ c
/-- bad -/
def bdC (E : EV) (N q : Nat) (s0 : mjSt3) (j0 : JS) (os : List Row) (s : mjSt3) : Prop := jrun E os j0 = none ∧ BC E.1 N q E.2.1 E.2.2.1 s ∧ oC q s0 s
section MJA27
variable {E : EV} {T : TT} {d N q c t n e k u v i m o w cs c0 : Nat} {s s' s0 : mjSt3} {L : List CD} {tr : Bool} {j j0 : JS}
theorem oE.C (x : oE q s s') : oC q s s' := offG.mono x (fun a b h => by
  rcases h with h | h | h
  · exact Or.inl h
  · exact Or.inr (Or.inr (Or.inr (Or.inr (Or.inl h))))
  · exact Or.inr (Or.inr (Or.inr (Or.inr (Or.inr (Or.inl h)))))) (fun _ _ h => h.elim)
theorem o58.oe (x : o58 s s') : oE q s s' := offG.mono x (fun _ _ h => Or.inl h) (fun _ _ h => h.elim)
theorem oE.r (x : oE q s s') {h : Nat} (hh : ¬ (h = 58 ∨ (q + 24 ≤ h ∧ h ≤ q + 27))) : s'.1 h = s.1 h := funext fun j => x.1 h j (by unfold c58; omega)
theorem oE.l (x : oE q s s') : s'.2 = s.2 := by
  have a : s'.2.1 = s.2.1 := funext fun h => funext fun j => x.2.1 h j (fun e => e)
  exact Prod.ext a x.2.2
theorem CE.pq (C : CE E N q s j cs) : isP q := C.1.pq
theorem VSr.oE {vs : List VE} {td : Nat} (V : VSr T N L vs td s) (hq : isP q) (x : oE q s s') : VSr T N L vs td s' := by
  have hq : q = 2 ∨ q = 30 := hq
  unfold VSr
  rw [x.r (by omega), x.r (by omega), x.r (by omega), x.l]
  exact V
theorem CE.go (C : CE E N q s j cs) (x : oE q s s') (h : s'.1 (q + 24) 3 = nI n) : CE E N q s' j n := by
  have hq : q = 2 ∨ q = 30 := C.pq
  exact ⟨C.1.oC x.C, by rw [x.r (by omega)]; exact C.2.1, C.2.2.1, C.2.2.2.1.oE C.pq x, h⟩
theorem CE.bad (C : CE E N q s j cs) (hcs : cs ≤ 3100) (x : o58 s s') (b : bdd N s') : BC E.1 N q E.2.1 E.2.2.1 s' := by
  have l16 : j.2.2.1.length ≤ 16 := by have := C.2.2.2.1.2.2.1; have := C.2.2.2.1.2.2.2.1; omega
  exact BC.of58 C.1 x b ⟨cs, hcs, C.2.2.2.2⟩ ⟨_, l16, C.2.2.2.1.1⟩
theorem AG.oE {l : List (Nat × Nat)} (A : AG s l) (hq : isP q) (x : oE q s s') : AG s' l := by
  have hq : q = 2 ∨ q = 30 := hq
  unfold AG; rw [x.r (by omega)]; exact A
theorem KT.app {kt : Int32 → Nat} {a b : List Nat} (h : KT kt k (a ++ b)) : KT kt k a ∧ KT kt (k + a.length) b := by
  refine ⟨fun j t hj => h j t ?_, fun j t hj => ?_⟩
  · have := (List.getElem?_eq_some_iff.mp hj).1
    rw [List.getElem?_append_left this]; exact hj
  · have := h (a.length + j) t (by rw [List.getElem?_append_right (by omega), show a.length + j - a.length = j by omega]; exact hj)
    rw [Nat.add_assoc]; exact this
theorem AG.app {a b : List (Nat × Nat)} (h : AG s (a ++ b)) : AG s a ∧ AG s b := ⟨fun e he => h e (List.mem_append_left _ he), fun e he => h e (List.mem_append_right _ he)⟩
theorem CL.nil : CL q s cs [] := fun j x h => by cases h
theorem CP.rf : CP q cs s s := fun _ _ => ⟨rfl, rfl, rfl⟩
theorem CP.trn {a b c : mjSt3} (h : CP q cs a b) (g : CP q cs b c) : CP q cs a c := fun j hj => ⟨(g j hj).1.trans (h j hj).1, (g j hj).2.1.trans (h j hj).2.1, (g j hj).2.2.trans (h j hj).2.2⟩
theorem CP.mono (h : CP q n s s') (hc : cs ≤ n) : CP q cs s s' := fun j hj => h j (by omega)
theorem CP.o58 (hq : isP q) (x : o58 s s') : CP q cs s s' := fun j _ => by
  have hq : q = 2 ∨ q = 30 := hq
  rw [x.r (by omega), x.r (by omega), x.r (by omega)]
  exact ⟨rfl, rfl, rfl⟩
theorem CL.keep {l : List Ins} (h : CL q s cs l) (g : CP q (cs + l.length) s s') : CL q s' cs l := fun j x hj => by
  have hl := (List.getElem?_eq_some_iff.mp hj).1
  obtain ⟨a, b, c⟩ := g (cs + j) (by omega)
  rw [a, b, c]; exact h j x hj
theorem CL.app {l l' : List Ins} (h : CL q s cs l) (g : CL q s (cs + l.length) l') : CL q s cs (l ++ l') := fun j x hj => by
  by_cases e : j < l.length
  · rw [List.getElem?_append_left e] at hj; exact h j x hj
  · rw [List.getElem?_append_right (by omega)] at hj
    have := g (j - l.length) x hj
    rw [show cs + l.length + (j - l.length) = cs + j by omega] at this
    exact this
/-- one instruction is put behind the code -/
theorem put1 (C : CE E N q s j cs) (hn : cs < 3100) (a b c' : Int32) : ∃ s', mjF (d + 1) 1 [.ref (q + 24), .int a, .int b, .int c'] (mjW0 s) = some (some (.int (nI cs)), mjW0 s') ∧ oE q s s' ∧ s'.1 58 = s.1 58 ∧ s'.1 (q + 24) 3 = nI (cs + 1) ∧ CL q s' cs [(a, b, c')] ∧ CP q cs s s' := by
  have hq : q = 2 ∨ q = 30 := C.pq
  obtain ⟨s', a1, a2, a3, a4, a5, a6, a7, a8, a9, b1, b2', b3⟩ := x_1 (d := d) C.pq C.2.2.2.2 hn a b c'
  refine ⟨s', a1, ⟨fun h k hk => ?_, fun h k _ => by rw [a8], by rw [a8]⟩, a3, a9, fun i x hx => ?_, fun i hi => ?_⟩
  · by_cases e1 : h = 58
    · rw [e1, a3]
    · by_cases e2 : h = 75
      · rw [e2, a4]
      · by_cases e3 : h = 77
        · rw [e3, a5]
        · by_cases e4 : h = 78
          · rw [e4, a6]
          · by_cases e5 : h = q + 23
            · rw [e5, a7]
            · exact a2.1 h k (by
                intro z
                apply hk
                rcases z with z | z | z | z | z | z | z
                · exact Or.inl z
                · omega
                · omega
                · omega
                · exact Or.inr (Or.inl z)
                · exact Or.inr (Or.inr z)
                · omega)
  · cases i with
    | zero =>
      cases hx
      rw [b1, b2', b3, Nat.add_zero, if_pos rfl, if_pos rfl, if_pos rfl]
      exact ⟨rfl, rfl, rfl⟩
    | succ i => cases hx
  · rw [b1, b2', b3, if_neg (by omega), if_neg (by omega), if_neg (by omega)]
    exact ⟨rfl, rfl, rfl⟩
/-- ... behind orders whose code stands: one order more -/
theorem atC.put {os : List Row} {l : List Ins} {al al' : Bool} {t' : Nat} {r : Row} (C : CE E N q s0 j0 cs) (A : atC E N q s0 c0 cs j0 os s c t al l) (a b p : Int32) (hr : jrow E r (jE j0 t al) = some (jE j0 t' al', [(a, b, p)])) (hv : vTn E.2.1 t') (hl : l.length + c0 < c) (hn : cs + l.length < 3100) : ∃ s', mjF (d + 1) 1 [.ref (q + 24), .int a, .int b, .int p] (mjW0 s) = some (some (.int (nI (cs + l.length))), mjW0 s') ∧ atC E N q s0 c0 cs j0 (os ++ [r]) s' c t' al' (l ++ [(a, b, p)]) ∧ oE q s s' := by
  obtain ⟨A1, A2, A3, A4, A5, A6, A7, A8⟩ := A
  obtain ⟨s', b1, b2', b3, b4, b5, b6⟩ := put1 (d := d) (C.go A7 A4) hn a b p
  refine ⟨s', b1, ⟨?_, hv, ⟨by rw [b3]; exact A3.1, by rw [b3]; exact A3.2⟩, ?_, (A5.keep b6).app b5, CP.trn A6 (b6.mono (by omega)), A7.tr b2', ?_⟩, b2'⟩
  · rw [jrun_app, A1]
    dsimp only
    rw [jrun_1, hr]
  · rw [b4, List.length_append, List.length_singleton, Nat.add_assoc]
  · rw [List.length_append, List.length_singleton]; omega
theorem x_20 {vs : List VE} {td : Nat} {e : VE} (V : VSr T N L vs td s) (h : vs[i]? = some e) : mjF (d + 1) 20 [.ref 75, .int (nI i)] (mjW0 s) = some (some (.int (tyI e.2.1)), mjW0 s) ∧ mjF (d + 1) 19 [.ref 75, .int (nI i)] (mjW0 s) = some (some (.int (nI e.2.2.1)), mjW0 s) := by
  have hl := (List.getElem?_eq_some_iff.mp h).1
  have l16 : vs.length ≤ 16 := by have := V.2.2.1; have := V.2.2.2.1; omega
  obtain ⟨a, b, _⟩ := V.2.2.2.2 i e h
  constructor
  · rw [e_20]
    unfold f_20 b_20_0
    rw [if_neg (nI_m1 (by omega)), xg_75_9, wa_77 (by omega), a]
  · rw [e_19]
    unfold f_19 b_19_0
    rw [if_neg (nI_m1 (by omega)), xg_75_10, wa_78 (by omega), b]
theorem x_20n : mjF (d + 1) 20 [.ref 75, .int (-1)] (mjW0 s) = some (some (.int (-1)), mjW0 s) ∧ mjF (d + 1) 19 [.ref 75, .int (-1)] (mjW0 s) = some (some (.int 0), mjW0 s) := by
  constructor
  · rw [e_20]
    unfold f_20 b_20_0
    rw [if_pos rfl]
  · rw [e_19]
    unfold f_19 b_19_0
    rw [if_pos rfl]
/-- askNumber: a TYPE that is no int is refused -/
theorem x_27 (C : CB T N q L tr s) (g : GB N s) (ht : t ≤ N) {ty : Nat} (hv : ty < 524290) : ∃ s', mjF (d + 2) 27 [.ref 75, .int (tyI ty), .int (nI t)] (mjW0 s) = some (none, mjW0 s') ∧ o58 s s' ∧ (ty = 0 → s' = s) ∧ (¬ ty = 0 → bdd N s') := by
  have pre : mjF (d + 2) 27 [.ref 75, .int (tyI ty), .int (nI t)] (mjW0 s) = _ := e_27 (d := d + 1)
  unfold f_27 b_27_0 at pre
  have e : tyI ty = -1 ↔ ty = 0 := tyI_eq (u := 0) hv (by decide)
  by_cases h : ty = 0
  · rw [if_pos (e.mpr h)] at pre
    exact ⟨s, pre, offG.rf, fun _ => rfl, fun x => absurd h x⟩
  · rw [if_neg (fun x => h (e.mp x)), xg_75_0, xV_58] at pre
    obtain ⟨z, z1, z2, z3⟩ := j_atG (d := d) (k := 7) C.1.1.1 g ht (by decide)
    rw [z1, bN_s] at pre
    exact ⟨z, pre, z3, fun x => absurd x h, fun _ => z2⟩
theorem x_30 {k : Int32} (d : Nat) (hp : mjH) : mjF (d + 1) 30 [.int k] hp = some (some (.int (if k = 37 then 21 else if k = 42 then 19 else if k = 43 then 17 else if k = 45 then 18 else if k = 47 then 20 else if k = 60 then 22 else if k = 200 then 23 else 24)), hp) := by
  rw [e_30]
  unfold f_30 b_30_0
  repeat' split
  all_goals rfl
end MJA27
end
section
/-! ===== the Coder: ATOMS ===== -/
/-- behind a method of the Coder that gives a TYPE: as the orders are judged -/
def gCo (E : EV) (N q : Nat) (s0 : mjSt3) (c0 cs : Nat) (j0 : JS) (os : List Row) (u : mjU) (c' : Nat) (P : Bool → List Ins → Prop) : Prop := (∃ s t al l, u = some (some (.int (tyI t)), mjW0 s) ∧ atC E N q s0 c0 cs j0 os s c' t al l ∧ c' ≤ N ∧ P al l) ∨ (∃ s v, u = some (some (.int (tyI v)), mjW0 s) ∧ v < 524290 ∧ bdC E N q s0 j0 os s)
def hE (E : EV) (N q D me : Nat) (rd : Nat → Nat → PX) (P : Nat → PZ → Bool → List Ins → Prop) : Prop := ∀ (c kq cs : Nat) (s : mjSt3) (j : JS) (z : PZ), c ≤ N → CE E N q s j cs → fne s c → rd c kq = .inr z → ¬ (E.1 z.1).1 = 61 → KT E.2.2.2.1 kq z.2.2.1 → AG s z.2.2.2.2 → cs + (z.1 - c) ≤ 3090 → gCo E N q s c cs j z.2.2.2.1 (mjF D me [.ref 75] (mjW0 s)) z.1 (P c z)
def P3 (c : Nat) (z : PZ) (_ : Bool) (l : List Ins) : Prop := z.2.1 = 3 → l.length + c + 3 ≤ z.1
def P5 (E : EV) (c : Nat) (_ : PZ) (al : Bool) (_ : List Ins) : Prop := al = decide ((E.1 c).1 = 12)
section MJA28
variable {E : EV} {d N q c t n e k u v i m o w cs c0 kq : Nat} {s s' s0 : mjSt3} {j j0 : JS} {z : PZ}
theorem CE.TH (C : CE E N q s j cs) : TH E.1 N s := C.1.1.1.1
theorem CE.KY (C : CE E N q s j cs) : KY E.1 N s := C.1.1.1.2.1
/-- one order of one instruction, at the beginning -/
theorem at1 {r : Row} {al : Bool} {c' : Nat} (C : CE E N q s j cs) {s1 : mjSt3} (x : o58 s s1) (f : fne s1 c') (hc : c < c') (hn : cs < 3100) (a b p : Int32) (hr : jrow E r j = some (jE j t al, [(a, b, p)])) (hv : vTn E.2.1 t) : ∃ s', mjF (d + 1) 1 [.ref (q + 24), .int a, .int b, .int p] (mjW0 s1) = some (some (.int (nI cs)), mjW0 s') ∧ atC E N q s c cs j [r] s' c' t al [(a, b, p)] ∧ s'.1 58 = s1.1 58 := by
  have hq : q = 2 ∨ q = 30 := C.pq
  have C1 : CE E N q s1 j cs := C.go x.oe (by rw [x.r (by omega)]; exact C.2.2.2.2)
  obtain ⟨s', b1, b2', b3, b4, b5, b6⟩ := put1 (d := d) C1 hn a b p
  refine ⟨s', b1, ⟨by rw [jrun_1, hr], hv, ⟨by rw [b3]; exact f.1, by rw [b3]; exact f.2⟩, b4, b5, CP.trn (CP.o58 C.pq x) b6, x.oe.tr b2', ?_⟩, b3⟩
  show 1 + c ≤ c'
  omega
theorem kd_E (C : CE E N q s j cs) {a : Int32} (ha : E.2.2.2.1 a = t) {k : Nat} (h : kdE E a = some k) : vK E.2.1 k := by
  unfold kdE at h
  rw [ha] at h
  cases hk : kdT E.1 E.2.1 E.2.2.2.2.1 false t with
  | none => rw [hk] at h; cases h
  | some x =>
    rw [hk] at h
    dsimp only at h
    by_cases g : (E.2.2.1 || nsT E.1 E.2.1 E.2.2.2.2.1 x) = true
    · rw [if_pos g] at h
      cases h
      obtain ⟨_, _, _, _, _, _, v⟩ := kd_v C.1.hn C.2.2.1 hk
      exact v
    · rw [if_neg g] at h; cases h
/-- the KIND at the cursor, as an order's -/
theorem x_kd (C : CE E N q s j cs) (hcs : cs ≤ 3100) (f : fne s t) (hk : KDk E.1 N t) {a : Int32} (ha : E.2.2.2.1 a = t) : (∀ k, kdE E a = some k → mjF (d + 3) 60 [.ref 71, .int (oI E.2.2.2.2.1), .int 0] (mjW0 s) = some (some (.int (nI k)), mjW0 (tkGo s (t + 2 + 2 * cntO E.1 6 (t + 2))))) ∧ (kdE E a = none → ∃ k s', k < 524288 ∧ mjF (d + 3) 60 [.ref 71, .int (oI E.2.2.2.2.1), .int 0] (mjW0 s) = some (some (.int (nI k)), mjW0 s') ∧ BC E.1 N q E.2.1 E.2.2.1 s' ∧ o58 s s') := by
  have X := C.1.1.1
  have Z := x_60 (d := d) (iN := inL E.2.1) (ip := ipT E.1 E.2.1) (kn := knF E.1 E.2.1) (h := E.2.2.2.2.1) X C.2.2.1 f hk false E.2.2.1 C.1.2.2.2.2.1 (Or.inr (Or.inr ⟨C.1.1.2.2.2.2.2.2.1, C.1.1.2.2.1⟩))
  rw [show b2 false = (0 : Int32) from rfl] at Z
  unfold kdE
  rw [ha]
  cases hkd : kdT E.1 E.2.1 E.2.2.2.2.1 false t with
  | none =>
    rw [hkd] at Z
    obtain ⟨s', z1, z2, z3⟩ := Z
    exact ⟨fun k h => (by cases h), fun _ => ⟨0, s', by omega, z1, C.bad hcs z3 z2, z3⟩⟩
  | some k =>
    rw [hkd] at Z
    dsimp only at Z ⊢
    rw [Bool.false_or] at Z
    by_cases g : (E.2.2.1 || nsT E.1 E.2.1 E.2.2.2.2.1 k) = true
    · rw [if_pos (show (E.2.2.1 || nst (nmL E.2.1) (inL E.2.1) (ipT E.1 E.2.1) (knF E.1 E.2.1) E.2.2.2.2.1 k) = true from g)] at Z
      rw [if_pos g]
      exact ⟨fun k' h => (by cases h; exact Z), fun h => (by cases h)⟩
    · rw [if_neg (show ¬ (E.2.2.1 || nst (nmL E.2.1) (inL E.2.1) (ipT E.1 E.2.1) (knF E.1 E.2.1) E.2.2.2.2.1 k) = true from g)] at Z
      obtain ⟨s', z1, z2, z3⟩ := Z
      rw [if_neg g]
      obtain ⟨_, _, _, _, _, _, vv⟩ := kd_v C.1.hn C.2.2.1 hkd
      exact ⟨fun k h => (by cases h), fun _ => ⟨k, s', vv.lt C.1.hn, z1, C.bad hcs z3 z2, z3⟩⟩
/-- codeAtom -/
theorem x_16 (ih : ¬ o = 12 → hE E N q (d + 5) 11 (prE E.1 (N + 1) w 0 (o + 1)) P3) : hE E N q (d + 6) 16 (fun c kq => pAtom E.1 (prE E.1 (N + 1) w 0 (o + 1)) o c kq) (P5 E) := by
  intro c kq cs s j z hc C f hz h61 hK hA hn
  have hT := C.TH
  have h0 := hT.2.2.1
  have hN := hT.2.1
  have hq' : q = 2 ∨ q = 30 := C.pq
  have hn0 := C.1.hn
  have pre : mjF (d + 6) 16 [.ref 75] (mjW0 s) = _ := e_16 (d := d + 5)
  have kn : mjF (d + 5) 173 [.ref 58] (mjW0 s) = some (some (.int (E.1 c).1), mjW0 s) := by
    rw [x_kindNow (tk_f hT f hc), (hT.2.2.2 c hc).1]
  unfold f_16 b_16_0 at pre
  rw [xg_75_0, xV_58, kn, bI_s] at pre
  unfold pAtom at hz
  dsimp only at hz
  by_cases e3 : (E.1 c).1 = 3
  · rw [if_pos e3] at hz pre
    cases hz
    have cN := lt_z h0 hc e3 (by decide)
    obtain ⟨G, B⟩ := x_17 (d := d + 3) hT C.KY C.2.2.2.1 f cN e3
    have ev := vsI_K j.2.2.1 (kyT E.1 c)
    have ek : jrow E (6, (E.1 c).2.1, 0, 0, (E.1 c).2.2.1) j = match vsK j.2.2.1 (kyT E.1 c) with
      | none => none
      | some e => some (jE j e.2.1 false, [(1, nI e.2.2.1, -1)]) := rfl
    cases hv : vsI j.2.2.1 (kyT E.1 c) with
    | none =>
      rw [hv] at ev
      obtain ⟨y, y1, y2, y3⟩ := B hv
      have bc := C.bad (by omega) y3 y2
      obtain ⟨y', n', w1, w2, w3, w4, w5⟩ := n_emit (d := d + 4) bc 1 0 (-1)
      rw [xV_75, y1, bI_s, xg_75_5, bc.1.2.2.2.2.2.2.2, xV_75, x_20n.2, bI_s, ycV C.pq, w1, bI_s, xV_75, x_20n.1, bI_s] at pre
      exact Or.inr ⟨y', 0, pre, by decide, by rw [jrun_1, ek, ev], w3, y3.C.tr w4⟩
    | some i =>
      rw [hv] at ev
      have il := fnd_lt hv
      obtain ⟨e, he⟩ : ∃ e, j.2.2.1[i]? = some e := ⟨_, List.getElem?_eq_getElem il⟩
      dsimp only at ev
      rw [he] at ev
      rw [ev] at ek
      have ty := (C.2.2.2.1.2.2.2.2 i e he).2.2.1
      have x1 : o58 s (tkGo s (c + 1)) := o58.go _ _
      have V1 := C.2.2.2.1.oE C.pq x1.oe
      obtain ⟨y, y1, y2, y3⟩ := at1 (d := d + 4) (c := c) C x1 (f.go (c + 1)) (by omega) (by omega) 1 (nI e.2.2.1) (-1) ek (Or.inr ty)
      have V2 := V1.oE C.pq (show oE q (tkGo s (c + 1)) y from ⟨fun h k hk => by
        have := y2.2.2.2.2.2.2.1.1 h k hk
        rw [this, x1.1 h k (fun z => hk (Or.inl z))], fun h k _ => by rw [y2.2.2.2.2.2.2.1.l, x1.l], by rw [y2.2.2.2.2.2.2.1.l, x1.l]⟩)
      rw [xV_75, G i hv, bI_s, xg_75_5, x1.l, C.1.2.2.2.2.2.2.2, xV_75, (x_20 (d := d + 4) V1 he).2, bI_s, ycV C.pq, y1, bI_s, xV_75, (x_20 (d := d + 4) V2 he).1, bI_s] at pre
      refine Or.inl ⟨y, e.2.1, false, _, pre, y2, by omega, ?_⟩
      show false = decide ((E.1 c).1 = 12)
      rw [e3]; decide
  rw [if_neg e3] at hz pre
  by_cases e4 : (E.1 c).1 = 4
  · rw [if_pos e4] at hz
    cases hz
    have cN := lt_z h0 hc e4 (by decide)
    rw [if_neg (show ¬ (E.1 c).1 = 11 by rw [e4]; decide), if_neg (show ¬ (E.1 c).1 = 12 by rw [e4]; decide), if_neg (show ¬ (E.1 c).1 = 14 by rw [e4]; decide), if_neg (show ¬ (E.1 c).1 = 40 by rw [e4]; decide), xg_75_5, C.1.2.2.2.2.2.2.2, xg_75_0, xg_75_0, xV_58, j_now hT f.1 hc, bI_s, xV_58, j_key hT f.1 hc hc, bL_s, ycV C.pq, C.KY.2.2.2 c hc e4] at pre
    obtain ⟨y, y1, y2', y3, y4, y5, y6⟩ := put1 (d := d + 4) C (by omega) 0 (E.1 c).2.2.2 (-1)
    have fy : fne y c := ⟨by rw [y3]; exact f.1, by rw [y3]; exact f.2⟩
    have hTy := (C.go y2' y4).TH
    rw [y1, bI_s, xg_75_0, xV_58, j_skip hTy fy cN, bN_s] at pre
    have xg : o58 y (tkGo y (c + 1)) := o58.go _ _
    refine Or.inl ⟨tkGo y (c + 1), 0, false, [(0, (E.1 c).2.2.2, -1)], pre, ⟨by rw [jrun_1]; rfl, Or.inr (Or.inl rfl), fy.go _, ?_, ?_, ?_, y2'.tr xg.oe, ?_⟩, by omega, ?_⟩
    · rw [xg.r (by omega)]; exact y4
    · exact y5.keep (CP.o58 C.pq xg)
    · exact CP.trn y6 (CP.o58 C.pq xg)
    · show 1 + c ≤ c + 1; omega
    · show false = decide ((E.1 c).1 = 12)
      rw [e4]; decide
  rw [if_neg e4] at hz
  by_cases e11 : (E.1 c).1 = 11
  · rw [if_pos e11] at hz pre
    cases hz
    have cN := lt_z h0 hc e11 (by decide)
    rw [xg_75_0, xV_58, j_skip hT f cN, bN_s, xg_75_5, show (tkGo s (c + 1)).2 = s.2 from rfl, C.1.2.2.2.2.2.2.2, ycV C.pq] at pre
    obtain ⟨y, y1, y2, y3⟩ := at1 (d := d + 4) (c := c) C (o58.go s (c + 1)) (f.go (c + 1)) (by omega) (by omega) 0 0 (-1) (r := (4, (E.1 c).2.1, 0, 0, 0)) (t := 1) (al := false) rfl (Or.inl rfl)
    rw [y1, bI_s] at pre
    refine Or.inl ⟨y, 1, false, _, pre, y2, by omega, ?_⟩
    show false = decide ((E.1 c).1 = 12)
    rw [e11]; decide
  rw [if_neg e11] at hz pre
  by_cases e12 : (E.1 c).1 = 12
  · rw [if_pos e12] at hz pre
    cases hz
    have cN := lt_z h0 hc e12 (by decide)
    have e21 : mjF (d + 5) 21 [.ref 75] (mjW0 s) = _ := e_21 (d := d + 4)
    unfold f_21 b_21_0 at e21
    rw [xg_75_6, C.2.1] at e21
    have ek : jrow E (5, (E.1 c).2.1, 0, 0, 0) j = match E.2.2.2.2.1 with
      | none => none
      | some c => some (jE j (own (nmL E.2.1) c + 2) true, [(3, 0, -1)]) := rfl
    cases hh : E.2.2.2.2.1 with
    | none =>
      rw [hh, oI_n, if_pos rfl, xg_75_0, xV_58] at e21
      obtain ⟨y, y1, y2, y3⟩ := j_ref (d := d + 3) (k := 5) hT f hc (by decide)
      rw [y1, bN_s] at e21
      rw [xV_75, e21, bI_s] at pre
      exact Or.inr ⟨y, 0, pre, by decide, by rw [jrun_1, ek, hh], C.bad (by omega) y3 y2, y3.C⟩
    | some cl =>
      have hcl := C.2.2.1 cl hh
      have h16 := hn0.1
      rw [hh] at ek
      rw [hh, oI_s, if_neg (nI_m1 (by omega)), xg_75_0, xV_58, j_skip hT f cN, bN_s, xg_75_5, show (tkGo s (c + 1)).2 = s.2 from rfl, C.1.2.2.2.2.2.2.2, ycV C.pq] at e21
      obtain ⟨y, y1, y2, y3⟩ := at1 (d := d + 3) (c := c) C (o58.go s (c + 1)) (f.go (c + 1)) (by omega) (by omega) 3 0 (-1) ek (Or.inr (Or.inr ⟨_, rfl, vK.own hn0 hcl⟩))
      have Cy := C.go y2.2.2.2.2.2.2.1 y2.2.2.2.1
      rw [y1, bI_s, xg_75_3, Cy.1.2.2.2.2.2.1, xg_75_6, Cy.2.1, hh, oI_s, yV C.pq, x_ownK C.pq Cy.1.1.1.2.2.2.2.2.2.1 (by omega), bI_s] at e21
      rw [xV_75, e21, bI_s] at pre
      refine Or.inl ⟨y, own (nmL E.2.1) cl + 2, true, _, pre, y2, by omega, ?_⟩
      show true = decide ((E.1 c).1 = 12)
      rw [e12]; decide
  rw [if_neg e12] at hz pre
  by_cases e14 : (E.1 c).1 = 14
  · rw [if_pos e14] at hz pre
    have cN := lt_z h0 hc e14 (by decide)
    cases hp : pKind E.1 (c + 1) with
    | inl x => rw [hp] at hz; cases hz
    | inr c' =>
      rw [hp] at hz
      cases hz
      obtain ⟨KD, ec⟩ := pKind_ok h0 (show c + 1 ≤ N by omega) hp
      have kl := KD.2.2.2.1
      have ha : E.2.2.2.1 (nI kq) = c + 1 := hK 0 (c + 1) rfl
      have x1 : o58 s (tkGo s (c + 1)) := o58.go _ _
      have C1 : CE E N q (tkGo s (c + 1)) j cs := C.go x1.oe (by rw [x1.r (by omega)]; exact C.2.2.2.2)
      obtain ⟨G, B⟩ := x_kd (d := d + 2) C1 (by omega) (f.go (c + 1)) KD ha
      rw [xg_75_0, xV_58, j_now hT f.1 hc, bI_s, xg_75_0, xV_58, j_skip hT f cN, bN_s, xg_75_2, xg_75_6, C1.2.1, xV_71] at pre
      have ek : jrow E (7, (E.1 c).2.1, nI kq, 0, 0) j = match kdE E (nI kq) with
        | none => none
        | some k => some (jE j (k + 2) false, [(14, nI k, (E.1 c).2.1)]) := rfl
      cases hk : kdE E (nI kq) with
      | none =>
        obtain ⟨k, y, kl2, y1, y2, y3⟩ := B hk
        obtain ⟨y', n', w1, w2, w3, w4, w5⟩ := n_emit (d := d + 4) y2 14 (nI k) (E.1 c).2.1
        rw [y1, bI_s, xg_75_5, y2.1.2.2.2.2.2.2.2, xg_75_0, xV_58, j_place y2.1.1.1.1 y2.2.1.1 (Nat.le_refl N) hc, bI_s, ycV C.pq, w1, bI_s] at pre
        exact Or.inr ⟨y', k + 2, pre, by omega, by rw [jrun_1, ek, hk], w3, x1.C.tr (y3.C.tr w4)⟩
      | some k =>
        have vk := kd_E C ha hk
        rw [hk] at ek
        have x2 : o58 s (tkGo (tkGo s (c + 1)) (c + 1 + 2 + 2 * cntO E.1 6 (c + 1 + 2))) := x1.tr (o58.go _ _)
        have f2 := (f.go (c + 1)).go (c + 1 + 2 + 2 * cntO E.1 6 (c + 1 + 2))
        obtain ⟨y, y1, y2, y3⟩ := at1 (d := d + 4) (c := c) C x2 f2 (by omega) (by omega) 14 (nI k) (E.1 c).2.1 ek (Or.inr (Or.inr ⟨k, rfl, vk⟩))
        rw [G k hk, bI_s, xg_75_5, x2.l, C.1.2.2.2.2.2.2.2, xg_75_0, xV_58, j_place (hT.o58 x2) f2.1 (by omega) hc, bI_s, ycV C.pq, y1, bI_s] at pre
        rw [ec]
        refine Or.inl ⟨y, k + 2, false, _, pre, y2, by omega, ?_⟩
        show false = decide ((E.1 c).1 = 12)
        rw [e14]; decide
  rw [if_neg e14] at hz pre
  by_cases e40 : (E.1 c).1 = 40
  · rw [if_pos e40] at hz pre
    have cN := lt_z h0 hc e40 (by decide)
    by_cases o12 : o = 12
    · rw [if_pos o12] at hz; cases hz
    rw [if_neg o12] at hz
    cases hp : prE E.1 (N + 1) w 0 (o + 1) (c + 1) kq with
    | inl x => rw [hp] at hz; cases hz
    | inr y =>
      rw [hp] at hz
      dsimp only at hz
      by_cases e41 : (E.1 y.1).1 = 41
      · rw [if_pos e41] at hz
        cases hz
        have x1 : o58 s (tkGo s (c + 1)) := o58.go _ _
        have C1 : CE E N q (tkGo s (c + 1)) j cs := C.go x1.oe (by rw [x1.r (by omega)]; exact C.2.2.2.2)
        have ln := (prE_len (T := E.1) (M := N + 1) w 0 (o + 1) (c + 1) kq y (by omega) hp).1
        have G := ih o12 (c + 1) kq cs (tkGo s (c + 1)) j y (by omega) C1 (f.go (c + 1)) hp (by rw [e41]; decide) hK (hA.oE C.pq x1.oe) (by
          have : y.1 + 1 - c ≤ 3090 - cs := by
            have := hn
            dsimp only at this
            omega
          omega)
        rw [xg_75_0, xV_58, j_skip hT f cN, bN_s, xV_75] at pre
        have ej : ∀ t al, jrow E (30, -1, 0, 0, 0) (jE j t al) = some (jE j t false, []) := fun _ _ => rfl
        rcases G with ⟨y', t, al, l, g1, ⟨g2, g3, g4, g5, g6, g7, g8, g9⟩, gN, g10⟩ | ⟨y', vv, g1, gv, g2, g3, g4⟩
        · have yN := lt_z h0 gN e41 (by decide)
          have hTy := (C1.go g8 g5).TH
          rw [g1, bI_s, xg_75_0, xV_58, j_skip hTy g4 yN, bN_s] at pre
          have xg : o58 y' (tkGo y' (y.1 + 1)) := o58.go _ _
          refine Or.inl ⟨tkGo y' (y.1 + 1), t, false, l, pre, ⟨?_, g3, g4.go _, ?_, g6.keep (CP.o58 C.pq xg), CP.trn (CP.o58 C.pq x1) (CP.trn g7 (CP.o58 C.pq xg)), x1.oe.tr (g8.tr xg.oe), ?_⟩, ?_, ?_⟩
          · rw [jrun_app, g2]
            dsimp only
            rw [jrun_1, ej]
            dsimp only
            rw [List.append_nil]
          · rw [xg.r (by omega)]; exact g5
          · show l.length + c ≤ y.1 + 1; omega
          · show y.1 + 1 ≤ N; omega
          · show false = decide ((E.1 c).1 = 12)
            rw [e40]; decide
        · rw [g1, bI_s, xg_75_0, xV_58, j_skipB g3.1.1.1.1 g3.2.1, bN_s] at pre
          refine Or.inr ⟨y', vv, pre, gv, ?_, g3, x1.C.tr g4⟩
          rw [jrun_app, g2]
      · rw [if_neg e41] at hz; cases hz
  · rw [if_neg e40] at hz; cases hz
end MJA28
end
section
/-! ===== the Coder: calls ===== -/
/-- a call that waits: METHOD and OWNERS, values so far -/
def jA (j : JS) (p : Nat × Nat) (rs : List Nat) : JS := (j.1, p :: j.2.1, j.2.2.1, j.2.2.2.1, j.2.2.2.2.1, j.2.2.2.2.2.1, j.2.2.2.2.2.2.1, rs)
/-- a METHOD that may be called: its rows -/
def okM (E : EV) (p : Nat × Nat) : Prop := p.1 < nMem E.2.1 ∧ vK E.2.1 p.2
/-- behind orders of a call that waits -/
def atA (E : EV) (q : Nat) (s0 : mjSt3) (c0 cs : Nat) (j0 : JS) (p : Nat × Nat) (os : List Row) (s : mjSt3) (c : Nat) (rs : List Nat) (l : List Ins) : Prop := jrun E os j0 = some (jA j0 p rs, l) ∧ fne s c ∧ s.1 (q + 24) 3 = nI (cs + l.length) ∧ CL q s cs l ∧ CP q cs s0 s ∧ oE q s0 s ∧ l.length + c0 + 3 ≤ c
theorem pArgs_pre {T : TT} {rv : Nat → Nat → PX} {kq : Nat} : ∀ (f k : Nat) (z : PZ) (y : Nat × PZ), pArgs T rv kq f k z = .inr y → ∃ a b c, y.2.2.2.1 = z.2.2.1 ++ a ∧ y.2.2.2.2.1 = z.2.2.2.1 ++ b ∧ y.2.2.2.2.2 = z.2.2.2.2 ++ c
  | 0, k, z, y, h => by cases h
  | f + 1, k, z, y, h => by
    unfold pArgs at h
    by_cases k6 : k = 6
    · rw [if_pos k6] at h; cases h
    · rw [if_neg k6] at h
      cases hr : rv z.1 (kq + z.2.2.1.length) with
      | inl e => rw [hr] at h; cases h
      | inr x =>
        rw [hr] at h
        dsimp only at h
        by_cases a : (T x.1).1 = 44
        · rw [if_pos a] at h
          obtain ⟨a1, b1, c1, h1, h2, h3⟩ := pArgs_pre f (k + 1) _ y h
          refine ⟨x.2.2.1 ++ a1, x.2.2.2.1 ++ [(12, (T z.1).2.1, nI k, 0, 0)] ++ b1, x.2.2.2.2 ++ c1, ?_, ?_, ?_⟩
          · rw [h1, List.append_assoc]
          · rw [h2]; simp only [List.append_assoc]
          · rw [h3, List.append_assoc]
        · rw [if_neg a] at h
          by_cases b : (T x.1).1 = 41
          · rw [if_pos b] at h
            cases h
            exact ⟨x.2.2.1, x.2.2.2.1 ++ [(12, (T z.1).2.1, nI k, 0, 0)], x.2.2.2.2, rfl, by simp only [List.append_assoc], rfl⟩
          · rw [if_neg b] at h; cases h
theorem pArgs_cnt {T : TT} {rv : Nat → Nat → PX} {kq : Nat} (hv : ∀ c kq x, rv c kq = .inr x → c < x.1) : ∀ (f k : Nat) (z : PZ) (y : Nat × PZ), k ≤ 6 → pArgs T rv kq f k z = .inr y → k < y.1 ∧ y.1 ≤ 6 ∧ z.1 + 1 < y.2.1
  | 0, k, z, y, _, h => by cases h
  | f + 1, k, z, y, hk, h => by
    unfold pArgs at h
    by_cases k6 : k = 6
    · rw [if_pos k6] at h; cases h
    · rw [if_neg k6] at h
      cases hr : rv z.1 (kq + z.2.2.1.length) with
      | inl e => rw [hr] at h; cases h
      | inr x =>
        have hx := hv _ _ _ hr
        rw [hr] at h
        dsimp only at h
        by_cases a : (T x.1).1 = 44
        · rw [if_pos a] at h
          have := pArgs_cnt hv f (k + 1) _ y (by omega) h
          dsimp only at this
          omega
        · rw [if_neg a] at h
          by_cases b : (T x.1).1 = 41
          · rw [if_pos b] at h
            cases h
            dsimp only
            omega
          · rw [if_neg b] at h; cases h
section MJA29
variable {E : EV} {d N q c t n e k u v i m o w cs c0 kq nt : Nat} {s s' s0 : mjSt3} {j j0 : JS} {z : PZ} {p : Nat × Nat} {os : List Row} {rs : List Nat} {l : List Ins}
theorem L23_S (R : mjR) (n a : Nat) (b e f g : Int32) (hp : mjH) : L_23_43 R (n + 1) a b e f g hp = b_23_43 R (L_23_43 R n) a b e f g hp := rfl
theorem BC.skp (B : BC E.1 N q E.2.1 E.2.2.1 s) : mjF (d + 1) 166 [.ref 58] (mjW0 s) = some (none, mjW0 s) := j_skipB B.1.1.1.1 B.2.1
/-- fits, in a bad state -/
theorem x_123B (B : BC E.1 N q E.2.1 E.2.2.1 s) (hv : v < 524290) (hw : vT E.2.1 w) : ∃ b, mjF (d + 3) 123 [.ref q, .int (tyI v), .int (tyI w)] (mjW0 s) = some (some (.int b), mjW0 s) := by
  have C := B.1
  have hq := C.pq
  have hn := C.hn
  have h16 := hn.1
  have pre : mjF (d + 3) 123 [.ref q, .int (tyI v), .int (tyI w)] (mjW0 s) = _ := e_123 (d := d + 2)
  unfold f_123 b_123_0 b_123_25 b_123_67 at pre
  match v, hv, pre with
  | 1, _, pre =>
    rw [if_pos (show tyI 1 = -2 from rfl)] at pre
    by_cases g : tyI w = -1
    · rw [if_pos g] at pre; exact ⟨_, pre⟩
    · rw [if_neg g] at pre; exact ⟨_, pre⟩
  | 0, _, pre =>
    rw [if_neg (show ¬ tyI 0 = -2 by decide), if_pos (show tyI 0 < 0 by decide)] at pre
    by_cases g : tyI 0 = tyI w
    · rw [if_pos g] at pre; exact ⟨_, pre⟩
    · rw [if_neg g] at pre; exact ⟨_, pre⟩
  | k + 2, hv, pre =>
    have kc : cK k < 16 := by unfold cK; omega
    rw [if_neg (show ¬ tyI (k + 2) = -2 from fun x => by
      have := (tyI_eq (t := k + 2) (u := 1) hv (by decide)).mp x
      omega), if_neg (show ¬ tyI (k + 2) < 0 from nI_pos (by omega))] at pre
    rcases hw with g | ⟨x, g, vx⟩
    · subst g
      rw [if_neg (show ¬ (0 : Int32) ≤ tyI 0 by decide)] at pre
      by_cases g : tyI (k + 2) = tyI 0
      · rw [if_pos g] at pre; exact ⟨_, pre⟩
      · rw [if_neg g] at pre; exact ⟨_, pre⟩
    · subst g
      have xl := vx.lt hn
      have xc := vx.cl hn
      have V : VWS E.1 E.2.1 q s := C.1.2.2.2.1
      rw [if_pos (show (0 : Int32) ≤ tyI (x + 2) from nI_pos' (by omega)), show tyI (k + 2) = nI k from rfl, show tyI (x + 2) = nI x from rfl, x_105 (by omega), bI_s, x_105 (by omega), bI_s, yV hq, x_view hq kc (by omega), bI_s, V _ kc _ (by omega)] at pre
      by_cases kl : cK k < E.2.1.length
      · rw [if_pos kl] at pre
        cases hv' : vwT (nmL E.2.1) (abT E.1 E.2.1) (cK k) (cK x) with
        | none => rw [hv', oI_n, if_pos (by decide)] at pre; exact ⟨_, pre⟩
        | some v' =>
          have vv := (vw_v hn kl hv').1
          have vl := vv.lt hn
          rw [hv', oI_s, if_neg (nI_pos (by omega)), yV hq, x_stand hq C.1.1.2.2.2.2.2.2.1 (by omega) (by omega) (by have := vv.cl hn; omega), bI_s] at pre
          by_cases g : nI (stand (nmL E.2.1) v' k) = nI x
          · rw [if_pos g] at pre; exact ⟨_, pre⟩
          · rw [if_neg g] at pre; exact ⟨_, pre⟩
      · rw [if_neg kl, if_pos (by decide)] at pre
        exact ⟨_, pre⟩
/-- the end of a call, in a bad state -/
theorem n_141 (B : BC E.1 N q E.2.1 E.2.2.1 s) (a : Int32) (hnt : nt ≤ N) : ∃ s', b_23_141 (mjF (d + 1)) 75 a (nI nt) (mjW0 s) = some (none, mjW0 s') ∧ BC E.1 N q E.2.1 E.2.2.1 s' ∧ oC q s s' := by
  obtain ⟨y, n', w1, w2, w3, w4, w5⟩ := n_emit (d := d) B 13 a (E.1 nt).2.1
  refine ⟨y, ?_, w3, w4⟩
  unfold b_23_141
  rw [xg_75_0, xV_58, B.skp, bN_s, xg_75_5, B.1.2.2.2.2.2.2.2, xg_75_0, xV_58, j_place B.1.1.1.1 B.2.1.1 (Nat.le_refl N) hnt, bI_s, ycV B.1.pq, w1, bI_s]
theorem n_23l (B : BC E.1 N q E.2.1 E.2.2.1 s) (hm : m < nMem E.2.1) (hnt : nt ≤ N) (a i : Int32) (n : Nat) : ∃ s', L_23_43 (mjF (d + 1)) (n + 1) 75 (nI m) (nI nt) a i (mjW0 s) = some (none, mjW0 s') ∧ BC E.1 N q E.2.1 E.2.2.1 s' ∧ oC q s s' := by
  obtain ⟨y, y1, y2, y3⟩ := n_141 (d := d) B (nI m) hnt
  refine ⟨y, ?_, y2, y3⟩
  have d3 := B.1.2.1.2.2.1
  rw [L23_S]
  unfold b_23_43
  rw [xg_75_4, B.1.2.2.2.2.2.2.1, ymg_6 B.1.pq, wya_20 B.1.pq (by omega), xg_75_0, xV_58, j_fineB B.2.1, bI_s, if_pos rfl, y1, ite_self]
theorem jrun_no {a b : List Row} {j : JS} (h : jrun E a j = none) : jrun E (a ++ b) j = none := by
  rw [jrun_app, h]
theorem fits_row (p : Nat × Nat) (al : Bool) (x : Int32) (hk : k < 2 ^ 31) : jrow E (12, x, nI k, 0, 0) (jE (jA j0 p rs) t al) = if fitT E.1 E.2.1 t (sty (nmL E.2.1) (pyT E.1 E.2.1 p.1 k) p.2) = true then some (jA j0 p (t :: rs), []) else none := by
  show (if fitT E.1 E.2.1 t (sty (nmL E.2.1) (pyT E.1 E.2.1 p.1 (nI k).toNatClampNeg) p.2) = true then some (jA j0 p (t :: rs), ([] : List Ins)) else none) = _
  rw [nI_clamp hk]
/-- ARGUMENTS -/
theorem argC (ih : hE E N q (d + 5) 11 (prE E.1 (N + 1) w 0 (o + 1)) P3) (C : CE E N q s0 j0 cs) (hp : okM E p) (hnt : nt ≤ N) : ∀ (f k n : Nat) (z : PZ) (y : Nat × PZ) (s : mjSt3) (rs : List Nat) (l : List Ins), pArgs E.1 (prE E.1 (N + 1) w 0 (o + 1)) kq f k z = .inr y → y.1 = (psM E.2.1 p.1).length → 8 < n + k → k ≤ 6 → atA E q s0 c0 cs j0 p (os ++ z.2.2.2.1) s (if k = 0 then z.1 else z.1 - 1) rs l → rs.drop (k + 1) = jRS j0 → 1 ≤ z.1 → z.1 ≤ N → KT E.2.2.2.1 kq y.2.2.2.1 → AG s y.2.2.2.2.2 → cs + (y.2.1 - c0) ≤ 3090 → (∃ s' rs' l', L_23_43 (mjF (d + 5)) n 75 (nI p.1) (nI nt) (nI p.2) (nI k) (mjW0 s) = b_23_141 (mjF (d + 5)) 75 (nI p.1) (nI nt) (mjW0 s') ∧ atA E q s0 c0 cs j0 p (os ++ y.2.2.2.2.1) s' (y.2.1 - 1) rs' l' ∧ rs'.drop (y.1 + 1) = jRS j0 ∧ y.2.1 ≤ N ∧ (E.1 (y.2.1 - 1)).1 = 41) ∨ (∃ s', L_23_43 (mjF (d + 5)) n 75 (nI p.1) (nI nt) (nI p.2) (nI k) (mjW0 s) = some (none, mjW0 s') ∧ bdC E N q s0 j0 (os ++ y.2.2.2.2.1) s')
  | 0, k, n, z, y, s, rs, l, h, _, _, _, _, _, _, _, _, _, _ => by cases h
  | f + 1, k, n, z, y, s, rs, l, h, hy, hn, hk6, A, hr, h1, hzN, hK, hA, hb => by
    have hv : ∀ c kq x, prE E.1 (N + 1) w 0 (o + 1) c kq = .inr x → c < x.1 := fun c kq x hx => (prE_len (T := E.1) (M := N + 1) w 0 (o + 1) c kq x (by omega) hx).1
    have cn := pArgs_cnt hv (f + 1) k z y hk6 h
    have hq' : q = 2 ∨ q = 30 := C.pq
    have hn0 := C.1.hn
    obtain ⟨A1, A2, A3, A4, A5, A6, A7⟩ := A
    have Cs : CE E N q s j0 (cs + l.length) := C.go A6 A3
    have d3 := Cs.1.2.1.2.2.1
    have hm := hp.1
    have l6 : (psM E.2.1 p.1).length ≤ 6 := (Cs.1.2.2.2.1 p.1 hm).2.2.2.2.1
    have hT := Cs.TH
    have h0 := hT.2.2.1
    have hN := hT.2.1
    have lb : cs + l.length ≤ 3090 := by
      have : l.length + c0 + 3 ≤ z.1 := by
        by_cases e : k = 0
        · rw [if_pos e] at A7; omega
        · rw [if_neg e] at A7; omega
      omega
    obtain ⟨n', rfl⟩ : ∃ n', n = n' + 1 := ⟨n - 1, by omega⟩
    unfold pArgs at h
    have k6 : ¬ k = 6 := by
      intro k6
      rw [if_pos k6] at h; cases h
    rw [if_neg k6] at h
    obtain ⟨n2, rfl⟩ : ∃ n2, n' = n2 + 1 := ⟨n' - 1, by omega⟩
    -- the cursor comes to the ARGUMENT
    have S : ∃ s1, o58 s s1 ∧ fne s1 z.1 ∧ L_23_43 (mjF (d + 5)) (n2 + 1 + 1) 75 (nI p.1) (nI nt) (nI p.2) (nI k) (mjW0 s) = b_23_79 (mjF (d + 5)) (L_23_43 (mjF (d + 5)) (n2 + 1)) 75 (nI p.1) (nI nt) (nI p.2) (nI k) (mjW0 s1) := by
      have pre : L_23_43 (mjF (d + 5)) (n2 + 1 + 1) 75 (nI p.1) (nI nt) (nI p.2) (nI k) (mjW0 s) = _ := L23_S _ _ _ _ _ _ _ _
      unfold b_23_43 at pre
      rw [xg_75_4, Cs.1.2.2.2.2.2.2.1, ymg_6 C.pq, wya_20 C.pq (by omega), (Cs.1.2.1.2.2.2.2 p.1 hm).2.2.2.2.2.2, show (mdM E.2.1 p.1).2.2.2.1.length = (psM E.2.1 p.1).length from rfl, ← hy, if_neg (nI_ge cn.1 (by omega)), xg_75_0, xV_58, j_fine A2, bI_s, if_neg (by decide)] at pre
      by_cases e : k = 0
      · rw [if_pos e] at A2
        subst e
        rw [if_pos (show nI 0 ≤ (0 : Int32) by decide)] at pre
        exact ⟨s, offG.rf, A2, pre⟩
      · rw [if_neg e] at A2
        rw [if_neg (nI_nle (by omega) (by omega)), xg_75_0, xV_58, j_skip hT A2 (by omega), bN_s, show z.1 - 1 + 1 = z.1 by omega] at pre
        exact ⟨_, o58.go _ _, A2.go _, pre⟩
    obtain ⟨s1, x1, f1, pre⟩ := S
    have Cs1 : CE E N q s1 (jA j0 p rs) (cs + l.length) := Cs.go x1.oe (by rw [x1.r (by omega)]; exact A3)
    have Y := Cs1.1.1.2.2.2.2.2.2.2.1 p.1 hm
    have vp := py_v (T := E.1) (i := k) hn0 (Cs.1.2.1.2.2.2.2 p.1 hm).2.1
    have vW := vp.sty hn0 hp.2
    unfold b_23_79 b_23_135 at pre
    rw [xg_75_0, xV_58, j_now Cs1.TH f1.1 hzN, bI_s, xg_75_3, Cs1.1.2.2.2.2.2.1, xg_75_4, Cs1.1.2.2.2.2.2.2.1, ymV C.pq, x_98 C.pq (by omega) (by omega), bI_s, Y.2 k (by omega), yV C.pq, x_sty hn0 C.pq Cs1.1.1.1.2.2.2.2.2.2.1 vp hp.2, bI_s, xg_75_3, Cs1.1.2.2.2.2.2.1, xV_75, nI_1] at pre
    cases hx : prE E.1 (N + 1) w 0 (o + 1) z.1 (kq + z.2.2.1.length) with
    | inl e => rw [hx] at h; cases h
    | inr x =>
      have zx := hv _ _ _ hx
      rw [hx] at h
      dsimp only at h
      -- the parts of the whole
      have parts : ∃ a b c, y.2.2.2.1 = z.2.2.1 ++ (x.2.2.1 ++ a) ∧ y.2.2.2.2.1 = z.2.2.2.1 ++ (x.2.2.2.1 ++ ([(12, (E.1 z.1).2.1, nI k, 0, 0)] ++ b)) ∧ y.2.2.2.2.2 = z.2.2.2.2 ++ (x.2.2.2.2 ++ c) ∧ x.1 < y.2.1 ∧ ¬ (E.1 x.1).1 = 61 := by
        by_cases a : (E.1 x.1).1 = 44
        · rw [if_pos a] at h
          obtain ⟨a1, b1, c1, h1, h2, h3⟩ := pArgs_pre f (k + 1) _ y h
          have := pArgs_cnt hv f (k + 1) _ y (by omega) h
          dsimp only at this h1 h2 h3
          refine ⟨a1, b1, c1, by rw [h1, List.append_assoc], by rw [h2]; simp only [List.append_assoc], by rw [h3, List.append_assoc], by omega, by rw [a]; decide⟩
        · rw [if_neg a] at h
          by_cases b : (E.1 x.1).1 = 41
          · rw [if_pos b] at h
            cases h
            exact ⟨[], [], [], by simp only [List.append_nil], by simp only [List.append_assoc, List.append_nil], by simp only [List.append_nil], by show x.1 < x.1 + 1; omega, by rw [b]; decide⟩
          · rw [if_neg b] at h; cases h
      obtain ⟨pa, pb, pc, e1, e2, e3, e4, e5⟩ := parts
      rw [e1] at hK
      rw [e3] at hA
      have A7' : l.length + c0 + 3 ≤ z.1 := by
        by_cases e : k = 0
        · rw [if_pos e] at A7; omega
        · rw [if_neg e] at A7; omega
      have G := ih z.1 (kq + z.2.2.1.length) (cs + l.length) s1 (jA j0 p rs) x hzN Cs1 f1 hx e5 (hK.app.2.app.1) ((hA.oE C.pq x1.oe).app.2.app.1) (by omega)
      have bad : ∀ (y' : mjSt3), BC E.1 N q E.2.1 E.2.2.1 y' → oC q s0 y' → jrun E (os ++ y.2.2.2.2.1) j0 = none → L_23_43 (mjF (d + 5)) (n2 + 1 + 1) 75 (nI p.1) (nI nt) (nI p.2) (nI k) (mjW0 s) = L_23_43 (mjF (d + 5)) (n2 + 1) 75 (nI p.1) (nI nt) (nI p.2) (nI (k + 1)) (mjW0 y') → (∃ s', L_23_43 (mjF (d + 5)) (n2 + 1 + 1) 75 (nI p.1) (nI nt) (nI p.2) (nI k) (mjW0 s) = some (none, mjW0 s') ∧ bdC E N q s0 j0 (os ++ y.2.2.2.2.1) s') := by
        intro y' by' oy nj pr
        obtain ⟨y2, w1, w2, w3⟩ := n_23l (d := d + 4) by' hm hnt (nI p.2) (nI (k + 1)) n2
        exact ⟨y2, pr.trans w1, nj, w2, oy.tr w3⟩
      have jz : ∀ r, jrun E (os ++ (z.2.2.2.1 ++ r)) j0 = match jrun E r (jA j0 p rs) with
          | none => none
          | some (j2, c2) => some (j2, l ++ c2) := by
        intro r
        rw [← List.append_assoc, jrun_app, A1]
        rfl
      rcases G with ⟨s2, t, al, l2, g1, ⟨g2, g3, g4, g5, g6, g7, g8, g9⟩, gN, _⟩ | ⟨s2, vv, g1, gv, g2, g3, g4⟩
      · have C2 : CE E N q s2 (jA j0 p rs) (cs + l.length + l2.length) := Cs1.go g8 g5
        have fr := fits_row (E := E) (j0 := j0) (rs := rs) (t := t) (k := k) p al (E.1 z.1).2.1 (by omega)
        rw [g1, bI_s, yV C.pq, x_123 C2.1 g3 vW, bI_s, b2_i, xg_75_0, xV_58] at pre
        have oe2 : oE q s0 s2 := A6.tr (x1.oe.tr g8)
        by_cases ft : fitT E.1 E.2.1 t (sty (nmL E.2.1) (pyT E.1 E.2.1 p.1 k) p.2) = true
        · rw [if_pos ft] at fr pre
          have CL2 : CL q s2 cs (l ++ l2) := (A4.keep (CP.trn (CP.o58 C.pq x1) g7)).app g6
          have CP2 : CP q cs s0 s2 := CP.trn A5 (CP.trn (CP.o58 C.pq x1) (g7.mono (by omega)))
          have jr : jrun E (os ++ (z.2.2.2.1 ++ (x.2.2.2.1 ++ [(12, (E.1 z.1).2.1, nI k, 0, 0)]))) j0 = some (jA j0 p (t :: rs), l ++ l2) := by
            rw [jz, jrun_app, g2]
            dsimp only
            rw [jrun_1, fr]
            dsimp only
            rw [List.append_nil]
          have sz : s2.1 (q + 24) 3 = nI (cs + (l ++ l2).length) := by rw [g5, List.length_append, Nat.add_assoc]
          have dr : (t :: rs).drop (k + 1 + 1) = jRS j0 := by
            show rs.drop (k + 1) = _
            exact hr
          by_cases a : (E.1 x.1).1 = 44
          · rw [if_pos a] at h
            have xN := lt_z h0 gN a (by decide)
            have R := argC ih C hp hnt f (k + 1) (n2 + 1) _ y s2 (t :: rs) (l ++ l2) h hy (by omega) (by omega) ⟨by
              dsimp only
              simp only [List.append_assoc]
              exact jr, by
              rw [if_neg (by omega)]
              show fne s2 (x.1 + 1 - 1)
              exact g4, sz, CL2, CP2, oe2, by
              rw [if_neg (by omega), List.length_append]
              show l.length + l2.length + c0 + 3 ≤ x.1 + 1 - 1
              omega⟩ dr (by show 1 ≤ x.1 + 1; omega) (by show x.1 + 1 ≤ N; omega) (by rw [e1]; exact hK) (by rw [e3]; exact (hA.oE C.pq (x1.oe.tr g8))) hb
            rcases R with ⟨s', rs', l', r1, r2⟩ | ⟨s', r1, r2⟩
            · exact Or.inl ⟨s', rs', l', pre.trans r1, r2⟩
            · exact Or.inr ⟨s', pre.trans r1, r2⟩
          · rw [if_neg a] at h
            by_cases b : (E.1 x.1).1 = 41
            · rw [if_pos b] at h
              have xN := lt_z h0 gN b (by decide)
              cases h
              refine Or.inl ⟨s2, t :: rs, l ++ l2, ?_, ⟨?_, g4, sz, CL2, CP2, oe2, ?_⟩, dr, by show x.1 + 1 ≤ N; omega, b⟩
              · rw [pre, L23_S]
                unfold b_23_43
                rw [xg_75_4, C2.1.2.2.2.2.2.2.1, ymg_6 C.pq, wya_20 C.pq (by omega), (C2.1.2.1.2.2.2.2 p.1 hm).2.2.2.2.2.2, show (mdM E.2.1 p.1).2.2.2.1.length = (psM E.2.1 p.1).length from rfl, ← hy, if_pos (nI_le (by show k + 1 ≤ k + 1; omega) (by omega))]
              · dsimp only
                simp only [List.append_assoc]
                exact jr
              · rw [List.length_append]
                show l.length + l2.length + c0 + 3 ≤ x.1 + 1 - 1
                omega
            · rw [if_neg b] at h; cases h
        · rw [if_neg ft] at fr pre
          obtain ⟨y', y1, y2, y3⟩ := j_at (d := d + 4) (k := 7) (t := z.1) C2.TH g4 gN hzN (by decide)
          rw [y1, bN_s] at pre
          refine Or.inr (bad y' (C2.bad (by omega) y3 y2) (oe2.C.tr y3.C) ?_ pre)
          rw [e2, jz, jrun_app, g2]
          dsimp only
          rw [jrun_app, jrun_1, fr]
      · obtain ⟨b, hbb⟩ := x_123B (d := d + 2) g3 gv vW
        rw [g1, bI_s, yV C.pq, hbb, bI_s, xg_75_0, xV_58, j_atB g3.1.1.1.1 g3.2.1, bN_s, ite_self] at pre
        refine Or.inr (bad s2 g3 (A6.C.tr (x1.C.tr g4)) ?_ pre)
        rw [e2, jz, jrun_app, g2]
end MJA29
end
section
/-! ===== the Coder: '.' NAME ===== -/
section MJA30
variable {E : EV} {d N q c t n e k u v i m o w cs c0 kq nt : Nat} {s s' s0 : mjSt3} {j j0 : JS} {y : PZ} {p : Nat × Nat} {os : List Row} {rs : List Nat} {l : List Ins} {al isM : Bool}
theorem prt_v (C : CE E N q s0 j0 cs) (hv : vTn E.2.1 t) {K : Int64} (h : prtE E (t, al) K isM = some p) : ∃ k, t = k + 2 ∧ vK E.2.1 k ∧ memT E.1 E.2.1 (cK k) K isM = some p.1 ∧ p.2 = seenT E.1 E.2.1 k p.1 ∧ okM E p ∧ ∃ v, vwT (nmL E.2.1) (abT E.1 E.2.1) (cK k) (hmM E.2.1 p.1) = some v ∧ p.2 = stand (nmL E.2.1) v k := by
  have hn := C.1.hn
  rcases hv with e | e | ⟨k, e, vk⟩
  · subst e; cases h
  · subst e; cases h
  · subst e
    have kc := vk.cl hn
    unfold prtE at h
    dsimp only at h
    cases hm : memT E.1 E.2.1 (cK k) K isM with
    | none => rw [hm] at h; cases h
    | some m =>
      rw [hm] at h
      dsimp only at h
      by_cases g : (!al && hidM E.1 E.2.1 m) = true
      · rw [if_pos g] at h; cases h
      · rw [if_neg g] at h
        cases h
        obtain ⟨ml, _, v, hv⟩ := mem_v C.1 kc hm
        have es : seenT E.1 E.2.1 k m = stand (nmL E.2.1) v k := by unfold seenT; rw [hv]
        exact ⟨k, rfl, vk, hm, rfl, ⟨ml, by show vK E.2.1 (seenT E.1 E.2.1 k m); rw [es]; exact vK.stand hn (vw_v hn kc hv).1 vk⟩, v, hv, es⟩
theorem call_row (rs : List Nat) (hr : rs.drop ((psM E.2.1 p.1).length + 1) = jRS j0) (x a : Int32) (nm : Int64) : jrow E (13, x, a, 0, nm) (jA j0 p rs) = some (jE j0 (sty (nmL E.2.1) (tyM E.1 E.2.1 p.1) p.2) false, [(13, nI p.1, x)]) := by
  show some (((sty (nmL E.2.1) (tyM E.1 E.2.1 p.1) p.2, false) :: j0.1, j0.2.1, j0.2.2.1, j0.2.2.2.1, j0.2.2.2.2.1, j0.2.2.2.2.2.1, j0.2.2.2.2.2.2.1, sty (nmL E.2.1) (tyM E.1 E.2.1 p.1) p.2 :: rs.drop ((psM E.2.1 p.1).length + 1)), [(13, nI p.1, x)]) = _
  rw [hr]
  rfl
theorem ask_row (x a : Int32) (nm : Int64) (h : prtE E (t, al) nm true = some p) : jrow E (11, x, 0, a, nm) (jE j0 t al) = if nI (psM E.2.1 p.1).length = a then some (jA j0 p (t :: jRS j0), []) else none := by
  show (match prtE E (t, al) nm true with
    | none => none
    | some p => if nI (psM E.2.1 p.1).length = a then some (jA j0 p (t :: jRS j0), ([] : List Ins)) else none) = _
  rw [h]
/-- the end of a call -/
theorem fin141 (C : CE E N q s0 j0 cs) (hp : okM E p) (hnt : nt ≤ N) (A : atA E q s0 c0 cs j0 p os s c rs l) (hr : rs.drop ((psM E.2.1 p.1).length + 1) = jRS j0) (h41 : (E.1 c).1 = 41) (hcN : c ≤ N) (hb : cs + (c + 1 - c0) ≤ 3090) (a : Int32) : ∃ s', b_23_141 (mjF (d + 1)) 75 (nI p.1) (nI nt) (mjW0 s) = some (none, mjW0 s') ∧ atC E N q s0 c0 cs j0 (os ++ [(13, (E.1 nt).2.1, a, 0, (E.1 nt).2.2.1)]) s' (c + 1) (sty (nmL E.2.1) (tyM E.1 E.2.1 p.1) p.2) false (l ++ [(13, nI p.1, (E.1 nt).2.1)]) ∧ c + 1 ≤ N ∧ (l ++ [((13, nI p.1, (E.1 nt).2.1) : Ins)]).length + c0 + 3 ≤ c + 1 := by
  obtain ⟨A1, A2, A3, A4, A5, A6, A7⟩ := A
  have hq' : q = 2 ∨ q = 30 := C.pq
  have Cs : CE E N q s j0 (cs + l.length) := C.go A6 A3
  have hT := Cs.TH
  have cN := lt_z hT.2.2.1 hcN h41 (by decide)
  have xg : o58 s (tkGo s (c + 1)) := o58.go _ _
  have C1 : CE E N q (tkGo s (c + 1)) j0 (cs + l.length) := Cs.go xg.oe (by rw [xg.r (by omega)]; exact A3)
  have f1 := A2.go (c + 1)
  obtain ⟨s', b1, b2', b3, b4, b5, b6⟩ := put1 (d := d) C1 (by omega) 13 (nI p.1) (E.1 nt).2.1
  have tv : vT E.2.1 (tyM E.1 E.2.1 p.1) := ty_v C.1.hn (fun c hc => by cases hc; exact (C.1.2.1.2.2.2.2 p.1 hp.1).2.1)
  refine ⟨s', ?_, ⟨?_, Or.inr (tv.sty C.1.hn hp.2), ⟨by rw [b3]; exact f1.1, by rw [b3]; exact f1.2⟩, ?_, ?_, ?_, A6.tr (xg.oe.tr b2'), ?_⟩, by omega, ?_⟩
  · unfold b_23_141
    rw [xg_75_0, xV_58, j_skip hT A2 cN, bN_s, xg_75_5, C1.1.2.2.2.2.2.2.2, xg_75_0, xV_58, j_place C1.TH f1.1 (by omega) hnt, bI_s, ycV C.pq, b1, bI_s]
  · rw [jrun_app, A1]
    dsimp only
    rw [jrun_1, call_row rs hr]
  · rw [b4, List.length_append, List.length_singleton, Nat.add_assoc]
  · exact (A4.keep (CP.trn (CP.o58 C.pq xg) b6)).app b5
  · exact CP.trn A5 (CP.trn (CP.o58 C.pq xg) (b6.mono (by omega)))
  · rw [List.length_append, List.length_singleton]; omega
  · rw [List.length_append, List.length_singleton]; omega
/-- codeCall -/
theorem x_23 (ih : ¬ o = 12 → hE E N q (d + 5) 11 (prE E.1 (N + 1) w 0 (o + 1)) P3) (C : CE E N q s0 j0 cs) (A : atC E N q s0 c0 cs j0 os s (nt + 1) t al l) (hl : l.length + c0 + 2 ≤ nt + 1) (hp : prtE E (t, al) (E.1 nt).2.2.1 true = some p) (hcN : nt + 1 ≤ N) (h40 : (E.1 (nt + 1)).1 = 40) (hy : pCall E.1 (prE E.1 (N + 1) w 0 (o + 1)) o (nt + 1) kq = .inr y) (hK : KT E.2.2.2.1 kq y.2.2.1) (hA : AG s y.2.2.2.2) (hb : cs + (y.1 - c0) ≤ 3090) : (∃ s' l', mjF (d + 6) 23 [.ref 75, .int (nI p.1), .int (nI nt), .int (nI p.2)] (mjW0 s) = some (none, mjW0 s') ∧ atC E N q s0 c0 cs j0 (os ++ y.2.2.2.1) s' y.1 (sty (nmL E.2.1) (tyM E.1 E.2.1 p.1) p.2) false l' ∧ y.1 ≤ N ∧ l'.length + c0 + 3 ≤ y.1) ∨ (∃ s', mjF (d + 6) 23 [.ref 75, .int (nI p.1), .int (nI nt), .int (nI p.2)] (mjW0 s) = some (none, mjW0 s') ∧ bdC E N q s0 j0 (os ++ y.2.2.2.1) s') := by
  obtain ⟨A1, A2, A3, A4, A5, A6, A7, A8⟩ := A
  have hq' : q = 2 ∨ q = 30 := C.pq
  have Cs : CE E N q s j0 (cs + l.length) := C.go A7 A4
  have hT := Cs.TH
  have h0 := hT.2.2.1
  have hN := hT.2.1
  obtain ⟨kk, _, _, _, _, ok, _⟩ := prt_v C A2 hp
  have hm := ok.1
  have d3 := Cs.1.2.1.2.2.1
  have l6 : (psM E.2.1 p.1).length ≤ 6 := (Cs.1.2.2.2.1 p.1 hm).2.2.2.2.1
  have pN := lt_z h0 hcN h40 (by decide)
  have pre : mjF (d + 6) 23 [.ref 75, .int (nI p.1), .int (nI nt), .int (nI p.2)] (mjW0 s) = _ := e_23 (d := d + 5)
  unfold f_23 b_23_0 at pre
  unfold pCall at hy
  by_cases o12 : o = 12
  · rw [if_pos o12] at hy; cases hy
  rw [if_neg o12] at hy
  have tk : Tk s (nt + 1) (N + 1) := tk_f hT A3 hcN
  -- the number of ARGUMENTS
  have main : ∀ cnt : Nat, cnt ≤ 6 → s.1 63 (nt + 1) = nI cnt → (mjF (d + 6) 23 [.ref 75, .int (nI p.1), .int (nI nt), .int (nI p.2)] (mjW0 s) = if cnt = (psM E.2.1 p.1).length then L_23_43 (mjF (d + 5)) mjN 75 (nI p.1) (nI nt) (nI p.2) 0 (mjW0 (tkGo s (nt + 1 + 1))) else bN (mjF (d + 5) 178 [.ref 58, .int 6, .int (nI nt)] (mjW0 s)) (fun hp => some (none, hp))) := by
    intro cnt hc6 h63
    rw [xg_75_0, xV_58, nI_1, x_argsAt tk (by omega), bI_s, h63, xg_75_4, Cs.1.2.2.2.2.2.2.1, ymg_6 C.pq, wya_20 C.pq (by omega), (Cs.1.2.1.2.2.2.2 p.1 hm).2.2.2.2.2.2, show (mdM E.2.1 p.1).2.2.2.1.length = (psM E.2.1 p.1).length from rfl] at pre
    by_cases g : cnt = (psM E.2.1 p.1).length
    · rw [if_pos (show nI cnt = nI (psM E.2.1 p.1).length by rw [g]), xg_75_0, xV_58, j_skip hT A3 pN, bN_s] at pre
      rw [if_pos g]; exact pre
    · rw [if_neg (show ¬ nI cnt = nI (psM E.2.1 p.1).length from fun x => g ((nI_eq (by omega) (by omega)).mp x)), xg_75_0, xV_58] at pre
      rw [if_neg g]; exact pre
  have refuse : ∀ (cnt : Nat) (r : List Row), nt + 1 < y.1 → cnt ≤ 6 → s.1 63 (nt + 1) = nI cnt → ¬ cnt = (psM E.2.1 p.1).length → y.2.2.2.1 = oAsk E.1 (nt + 1) cnt :: r → (∃ s', mjF (d + 6) 23 [.ref 75, .int (nI p.1), .int (nI nt), .int (nI p.2)] (mjW0 s) = some (none, mjW0 s') ∧ bdC E N q s0 j0 (os ++ y.2.2.2.1) s') := by
    intro cnt r hy1 hc6 h63 g er
    obtain ⟨y', y1, y2, y3⟩ := j_at (d := d + 4) (k := 6) (t := nt) hT A3 hcN (by omega) (by decide)
    have pr := main cnt hc6 h63
    rw [if_neg g, y1, bN_s] at pr
    refine ⟨y', pr, ?_, Cs.bad (by omega) y3 y2, A7.C.tr y3.C⟩
    rw [er, jrun_app, A1]
    dsimp only
    show (match (match jrow E (11, (E.1 (nt + 1 - 1)).2.1, 0, nI cnt, (E.1 (nt + 1 - 1)).2.2.1) (jE j0 t al) with
      | none => none
      | some (j1, c1) => match jrun E r j1 with
        | none => none
        | some (j2, c2) => some (j2, c1 ++ c2)) with
      | none => none
      | some (j2, c2) => some (j2, l ++ c2)) = none
    rw [show nt + 1 - 1 = nt by omega, ask_row _ _ _ hp, if_neg (fun x => g ((nI_eq (by omega) (by omega)).mp x).symm)]
  have askd : ∀ cnt : Nat, cnt = (psM E.2.1 p.1).length → jrun E (os ++ [oAsk E.1 (nt + 1) cnt]) j0 = some (jA j0 p (t :: jRS j0), l) := by
    intro cnt g
    rw [jrun_app, A1]
    dsimp only
    rw [jrun_1]
    show (match jrow E (11, (E.1 (nt + 1 - 1)).2.1, 0, nI cnt, (E.1 (nt + 1 - 1)).2.2.1) (jE j0 t al) with
      | none => none
      | some (j2, c2) => some (j2, l ++ c2)) = _
    rw [show nt + 1 - 1 = nt by omega, ask_row _ _ _ hp, if_pos (by rw [g])]
    dsimp only
    rw [List.append_nil]
  have xg : o58 s (tkGo s (nt + 1 + 1)) := o58.go _ _
  have C1 : CE E N q (tkGo s (nt + 1 + 1)) j0 (cs + l.length) := Cs.go xg.oe (by rw [xg.r (by omega)]; exact A4)
  by_cases e41 : (E.1 (nt + 1 + 1)).1 = 41
  · rw [if_pos e41] at hy
    cases hy
    have h63 : s.1 63 (nt + 1) = nI 0 := hA (nt + 1, 0) (List.mem_singleton.mpr rfl)
    by_cases g : 0 = (psM E.2.1 p.1).length
    · have pr := main 0 (by omega) h63
      rw [if_pos g] at pr
      have B := fin141 (d := d + 4) (s := tkGo s (nt + 1 + 1)) (c := nt + 1 + 1) (nt := nt) (rs := t :: jRS j0) (os := os ++ [oAsk E.1 (nt + 1) 0]) (l := l) (c0 := c0) C ok (by omega) ⟨askd 0 g, A3.go _, by rw [xg.r (by omega)]; exact A4, A5.keep (CP.o58 C.pq xg), CP.trn A6 (CP.o58 C.pq xg), A7.tr xg.oe, by omega⟩ (by rw [← g]; rfl) e41 (by omega) (by dsimp only at hb; omega) (nI 0)
      obtain ⟨s', w1, w2, w3, w4⟩ := B
      refine Or.inl ⟨s', _, ?_, ?_, w3, w4⟩
      · rw [pr, show mjN = 99999999 + 1 from rfl, L23_S]
        unfold b_23_43
        rw [xg_75_4, C1.1.2.2.2.2.2.2.1, ymg_6 C.pq, wya_20 C.pq (by omega), (C1.1.2.1.2.2.2.2 p.1 hm).2.2.2.2.2.2, show (mdM E.2.1 p.1).2.2.2.1.length = (psM E.2.1 p.1).length from rfl, ← g, if_pos (show nI 0 ≤ (0 : Int32) by decide)]
        exact w1
      · rw [List.append_assoc] at w2
        show atC E N q s0 c0 cs j0 (os ++ [oAsk E.1 (nt + 1) 0, oCall E.1 (nt + 1) 0]) s' (nt + 1 + 1 + 1) _ false _
        have ec : oCall E.1 (nt + 1) 0 = (13, (E.1 nt).2.1, nI 0, 0, (E.1 nt).2.2.1) := by unfold oCall; rw [show nt + 1 - 1 = nt by omega]
        rw [ec]
        exact w2
    · exact Or.inr (refuse 0 _ (by show nt + 1 < nt + 1 + 2; omega) (by omega) h63 g rfl)
  · rw [if_neg e41] at hy
    cases hpa : pArgs E.1 (prE E.1 (N + 1) w 0 (o + 1)) kq 7 0 (nt + 1 + 1, 0, [], [], []) with
    | inl x => rw [hpa] at hy; cases hy
    | inr x =>
      rw [hpa] at hy
      cases hy
      have hv : ∀ c kq x, prE E.1 (N + 1) w 0 (o + 1) c kq = .inr x → c < x.1 := fun c kq x hx => (prE_len (T := E.1) (M := N + 1) w 0 (o + 1) c kq x (by omega) hx).1
      have cn := pArgs_cnt hv 7 0 _ x (by omega) hpa
      dsimp only at cn hb hK hA
      have h63 : s.1 63 (nt + 1) = nI x.1 := hA (nt + 1, x.1) (List.mem_append_right _ (List.mem_singleton.mpr rfl))
      by_cases g : x.1 = (psM E.2.1 p.1).length
      · have pr := main x.1 cn.2.1 h63
        rw [if_pos g] at pr
        have R := argC (d := d) (c0 := c0) (os := os ++ [oAsk E.1 (nt + 1) x.1]) (p := p) (nt := nt) (ih o12) C ok (by omega) 7 0 mjN (nt + 1 + 1, 0, [], [], []) x (tkGo s (nt + 1 + 1)) (t :: jRS j0) l hpa g (by have := mjN_v; omega) (by omega) ⟨by rw [show (os ++ [oAsk E.1 (nt + 1) x.1]) ++ ([] : List Row) = os ++ [oAsk E.1 (nt + 1) x.1] from List.append_nil _]; exact askd x.1 g, A3.go _, by rw [xg.r (by omega)]; exact A4, A5.keep (CP.o58 C.pq xg), CP.trn A6 (CP.o58 C.pq xg), A7.tr xg.oe, by show l.length + c0 + 3 ≤ nt + 1 + 1; omega⟩ rfl (by show 1 ≤ nt + 1 + 1; omega) (by show nt + 1 + 1 ≤ N; omega) hK ((hA.oE C.pq xg.oe).app.1) (by omega)
        have eo : os ++ (oAsk E.1 (nt + 1) x.1 :: (x.2.2.2.2.1 ++ [oCall E.1 (nt + 1) x.1])) = (os ++ [oAsk E.1 (nt + 1) x.1] ++ x.2.2.2.2.1) ++ [oCall E.1 (nt + 1) x.1] := by simp only [List.append_assoc, List.cons_append, List.nil_append]
        rcases R with ⟨s2, rs2, l2, r1, r2, r3, r4, r5⟩ | ⟨s2, r1, r2⟩
        · have B := fin141 (d := d + 4) (nt := nt) C ok (by omega) r2 (by rw [← g]; exact r3) r5 (by omega) (by omega) (nI x.1)
          obtain ⟨s', w1, w2, w3, w4⟩ := B
          rw [show x.2.1 - 1 + 1 = x.2.1 by omega] at w2 w3 w4
          refine Or.inl ⟨s', _, ?_, ?_, w3, w4⟩
          · rw [pr, show (0 : Int32) = nI 0 from rfl, r1]; exact w1
          · show atC E N q s0 c0 cs j0 (os ++ (oAsk E.1 (nt + 1) x.1 :: (x.2.2.2.2.1 ++ [oCall E.1 (nt + 1) x.1]))) s' x.2.1 _ false _
            rw [eo]
            have ec : oCall E.1 (nt + 1) x.1 = (13, (E.1 nt).2.1, nI x.1, 0, (E.1 nt).2.2.1) := by unfold oCall; rw [show nt + 1 - 1 = nt by omega]
            rw [ec]
            exact w2
        · refine Or.inr ⟨s2, ?_, ?_, r2.2.1, r2.2.2⟩
          · rw [pr, show (0 : Int32) = nI 0 from rfl, r1]
          · show jrun E (os ++ (oAsk E.1 (nt + 1) x.1 :: (x.2.2.2.2.1 ++ [oCall E.1 (nt + 1) x.1]))) j0 = none
            rw [eo]
            exact jrun_no r2.1
      · exact Or.inr (refuse x.1 _ (by show nt + 1 < x.2.1; omega) cn.2.1 h63 g rfl)
end MJA30
end
section
/-! ===== the Coder: MEMBERS of an E, POST ===== -/
def Pt : Nat → PZ → Bool → List Ins → Prop := fun _ _ _ _ => True
section MJA31
variable {E : EV} {d N q c t n e k u v i m o w cs c0 kq nt : Nat} {s s' s0 : mjSt3} {j j0 : JS} {y z : PZ} {p : Nat × Nat} {os : List Row} {rs : List Nat} {l : List Ins} {al isM : Bool}
/-- codeField, in a bad state -/
theorem n_24 (B : BC E.1 N q E.2.1 E.2.2.1 s) (hm : m < nMem E.2.1) (hnt : nt ≤ N) : ∃ s', mjF (d + 2) 24 [.ref 75, .int (nI m), .int (nI nt)] (mjW0 s) = some (none, mjW0 s') ∧ BC E.1 N q E.2.1 E.2.2.1 s' ∧ oC q s s' := by
  have d3 := B.1.2.1.2.2.1
  obtain ⟨y, n', w1, w2, w3, w4, w5⟩ := n_emit (d := d) B 12 (nI (numM E.1 E.2.1 m)) (E.1 nt).2.1
  refine ⟨y, ?_, w3, w4⟩
  rw [e_24]
  unfold f_24 b_24_0
  rw [xg_75_0, xV_58, j_place B.1.1.1.1 B.2.1.1 (Nat.le_refl N) hnt, bI_s, xg_75_0, xV_58, kN0 B (by decide), bI_s, if_pos rfl, xg_75_5, B.1.2.2.2.2.2.2.2, xg_75_4, B.1.2.2.2.2.2.2.1, ymg_5 B.1.pq, wya_19 B.1.pq (by omega), (B.1.1.2.2.2.2.2.1 m hm).1, ycV B.1.pq, w1, bI_s]
/-- codeCall, in a bad state -/
theorem n_23 (B : BC E.1 N q E.2.1 E.2.2.1 s) (hm : m < nMem E.2.1) (hnt : nt + 1 ≤ N) (a : Int32) : ∃ s', mjF (d + 3) 23 [.ref 75, .int (nI m), .int (nI nt), .int a] (mjW0 s) = some (none, mjW0 s') ∧ BC E.1 N q E.2.1 E.2.2.1 s' ∧ oC q s s' := by
  have d3 := B.1.2.1.2.2.1
  have hT := B.1.1.1.1
  obtain ⟨y, w1, w2, w3⟩ := n_23l (d := d + 1) (nt := nt) B hm (by omega) a 0 99999999
  have pre : mjF (d + 3) 23 [.ref 75, .int (nI m), .int (nI nt), .int a] (mjW0 s) = _ := e_23 (d := d + 2)
  unfold f_23 b_23_0 at pre
  rw [xg_75_0, xV_58, nI_1, x_argsAt (tk_b hT B.2.1) (by omega), bI_s, xg_75_4, B.1.2.2.2.2.2.2.1, ymg_6 B.1.pq, wya_20 B.1.pq (by omega)] at pre
  by_cases g : s.1 63 (nt + 1) = s.1 (q + 20) m
  · rw [if_pos g, xg_75_0, xV_58, B.skp, bN_s] at pre
    exact ⟨y, pre.trans w1, w2, w3⟩
  · rw [if_neg g, xg_75_0, xV_58, j_atB hT B.2.1, bN_s] at pre
    exact ⟨s, pre, B, offG.rf⟩
theorem x_176 (C : CB E.1 N q E.2.1 E.2.2.1 s) (hp : okM E p) : b_22_176 (mjF (d + 2)) 75 (nI p.1) (nI p.2) (mjW0 s) = some (some (.int (tyI (sty (nmL E.2.1) (tyM E.1 E.2.1 p.1) p.2))), mjW0 s) := by
  have d3 := C.2.1.2.2.1
  have hm := hp.1
  have tv : vT E.2.1 (tyM E.1 E.2.1 p.1) := ty_v C.hn (fun c hc => by cases hc; exact (C.2.1.2.2.2.2 p.1 hm).2.1)
  have y : s.1 (q + 17) p.1 = tyI (tyM E.1 E.2.1 p.1) := (C.1.2.2.2.2.2.2.2.1 p.1 hm).1
  unfold b_22_176
  rw [xg_75_3, C.2.2.2.2.2.1, xg_75_4, C.2.2.2.2.2.2.1, ymg_3 C.pq, wya_17 C.pq (by omega), y, yV C.pq, x_sty C.hn C.pq C.1.1.2.2.2.2.2.2.1 tv hp.2, bI_s]
theorem st_lt (C : CB E.1 N q E.2.1 E.2.2.1 s) (hp : okM E p) : sty (nmL E.2.1) (tyM E.1 E.2.1 p.1) p.2 < 524290 := by
  have tv : vT E.2.1 (tyM E.1 E.2.1 p.1) := ty_v C.hn (fun c hc => by cases hc; exact (C.2.1.2.2.2.2 p.1 hp.1).2.1)
  exact (tv.sty C.hn hp.2).lt C.hn
/-- the second half of codeMember, in a bad state -/
theorem n_116 (B : BC E.1 N q E.2.1 E.2.2.1 s) (vk : vK E.2.1 k) (hp : okM E p) (hv : vwT (nmL E.2.1) (abT E.1 E.2.1) (cK k) (hmM E.2.1 p.1) = some v) (es : p.2 = stand (nmL E.2.1) v k) (hnt : nt + 1 ≤ N) (isM : Bool) : ∃ s', b_22_116 (mjF (d + 3)) 75 (nI k) (nI nt) (b2 isM) (nI (cK k)) (nI p.1) (mjW0 s) = some (some (.int (tyI (sty (nmL E.2.1) (tyM E.1 E.2.1 p.1) p.2))), mjW0 s') ∧ BC E.1 N q E.2.1 E.2.2.1 s' ∧ oC q s s' := by
  have C := B.1
  have hn := C.hn
  have h16 := hn.1
  have kc := vk.cl hn
  have kl := vk.lt hn
  have vv := (vw_v hn kc hv).1
  have vl := vv.lt hn
  have d3 := C.2.1.2.2.1
  have V : VWS E.1 E.2.1 q s := C.1.2.2.2.1
  have hmc := (C.2.1.2.2.2.2 p.1 hp.1).2.1
  have d31 := hp.1
  unfold b_22_116
  rw [xg_75_0, xV_58, B.skp, bN_s, xg_75_3, C.2.2.2.2.2.1, xg_75_3, C.2.2.2.2.2.1, xg_75_4, C.2.2.2.2.2.2.1, ymg_2 C.pq, wya_16 C.pq (by omega), (C.2.1.2.2.2.2 p.1 hp.1).1, yV C.pq, x_view C.pq (by omega) (by omega), bI_s, V _ (by omega) _ (by omega), if_pos kc, hv, oI_s, yV C.pq, x_stand C.pq C.1.1.2.2.2.2.2.2.1 (by omega) (by omega) (by have := vv.cl hn; omega), bI_s, ← es, b2_i]
  cases isM with
  | true =>
    obtain ⟨y, w1, w2, w3⟩ := n_23 (d := d) B hp.1 hnt (nI p.2)
    refine ⟨y, ?_, w2, w3⟩
    rw [if_pos rfl, xV_75, w1, bN_s, x_176 w2.1 hp]
  | false =>
    obtain ⟨y, w1, w2, w3⟩ := n_24 (d := d + 1) B hp.1 (show nt ≤ N by omega)
    refine ⟨y, ?_, w2, w3⟩
    rw [if_neg (by decide), xV_75, w1, bN_s, x_176 w2.1 hp]
theorem fld_row (x : Int32) (nm : Int64) (h : prtE E (t, al) nm false = some p) : jrow E (10, x, 0, 0, nm) (jE j0 t al) = some (jE j0 (sty (nmL E.2.1) (tyM E.1 E.2.1 p.1) p.2) false, [(12, nI (numM E.1 E.2.1 p.1), x)]) := by
  show (match prtE E (t, al) nm false with
    | none => none
    | some p => some (jE j0 (sty (nmL E.2.1) (tyM E.1 E.2.1 p.1) p.2) false, [((12, nI (numM E.1 E.2.1 p.1), x) : Ins)])) = _
  rw [h]
theorem fld_no (x : Int32) (nm : Int64) (h : prtE E (t, al) nm false = none) : jrow E (10, x, 0, 0, nm) (jE j0 t al) = none := by
  show (match prtE E (t, al) nm false with
    | none => none
    | some p => some (jE j0 (sty (nmL E.2.1) (tyM E.1 E.2.1 p.1) p.2) false, [((12, nI (numM E.1 E.2.1 p.1), x) : Ins)])) = _
  rw [h]
theorem ask_no (x a : Int32) (nm : Int64) (h : prtE E (t, al) nm true = none) : jrow E (11, x, 0, a, nm) (jE j0 t al) = none := by
  show (match prtE E (t, al) nm true with
    | none => none
    | some p => if nI (psM E.2.1 p.1).length = a then some (jA j0 p (t :: jRS j0), ([] : List Ins)) else none) = _
  rw [h]
/-- codeMember: up to where the MEMBER is known. K: what is to follow in the good state -/
theorem x_22a (C : CE E N q s0 j0 cs) (A : atC E N q s0 c0 cs j0 os s nt t al l) (hl : l.length + c0 + 1 ≤ nt) (hb : cs + l.length ≤ 3090) (h3 : (E.1 nt).1 = 3) (hN1 : nt + 1 ≤ N) (hM : isM = decide ((E.1 (nt + 1)).1 = 40)) : (∀ p, prtE E (t, al) (E.1 nt).2.2.1 isM = some p → ∃ s1, o58 s s1 ∧ fne s1 (nt + 1) ∧ mjF (d + 7) 22 [.ref 75, .int (tyI t), .int (b2 al)] (mjW0 s) = (if b2 isM = 0 then bN (mjF (d + 6) 24 [.ref 75, .int (nI p.1), .int (nI nt)] (mjW0 s1)) (fun hp => b_22_176 (mjF (d + 6)) 75 (nI p.1) (nI p.2) hp) else bN (mjF (d + 6) 23 [.ref 75, .int (nI p.1), .int (nI nt), .int (nI p.2)] (mjW0 s1)) (fun hp => b_22_176 (mjF (d + 6)) 75 (nI p.1) (nI p.2) hp))) ∧ (prtE E (t, al) (E.1 nt).2.2.1 isM = none → ∃ s1 v, mjF (d + 7) 22 [.ref 75, .int (tyI t), .int (b2 al)] (mjW0 s) = some (some (.int (tyI v)), mjW0 s1) ∧ v < 524290 ∧ BC E.1 N q E.2.1 E.2.2.1 s1 ∧ oC q s0 s1) := by
  obtain ⟨A1, A2, A3, A4, A5, A6, A7, A8⟩ := A
  have hq' : q = 2 ∨ q = 30 := C.pq
  have Cs : CE E N q s j0 (cs + l.length) := C.go A7 A4
  have hT := Cs.TH
  have hN := hT.2.1
  have hn := C.1.hn
  have h16 := hn.1
  have tl := A2.lt hn
  have pre : mjF (d + 7) 22 [.ref 75, .int (tyI t), .int (b2 al)] (mjW0 s) = _ := e_22 (d := d + 6)
  unfold f_22 b_22_0 at pre
  rw [xg_75_0, xV_58, j_now hT A3.1 (by omega), bI_s] at pre
  by_cases t2 : t < 2
  · rw [if_neg (show ¬ (0 : Int32) ≤ tyI t from Int32.not_le.mpr ((tyI_neg tl).mpr t2)), xg_75_0, xV_58] at pre
    obtain ⟨y', y1, y2, y3⟩ := j_at (d := d + 5) (k := 7) (t := nt) hT A3 (by omega) (by omega) (by decide)
    rw [y1, bN_s] at pre
    refine ⟨fun p hp => ?_, fun _ => ⟨y', 0, pre, by decide, Cs.bad (by omega) y3 y2, A7.C.tr y3.C⟩⟩
    obtain ⟨k, e, _⟩ := prt_v C A2 hp
    omega
  · rcases A2 with e | e | ⟨k, e, vk⟩
    · omega
    · omega
    subst e
    have kl := vk.lt hn
    have kc := vk.cl hn
    have d3 := Cs.1.2.1.2.2.1
    rw [if_pos (show (0 : Int32) ≤ tyI (k + 2) from nI_pos' (by omega)), xg_75_0, xV_58, nI_1, j_kind hT A3.1 (by omega) hN1, bI_s] at pre
    have pre2 : mjF (d + 7) 22 [.ref 75, .int (tyI (k + 2)), .int (b2 al)] (mjW0 s) = b_22_44 (mjF (d + 6)) 75 (nI k) (b2 al) (nI nt) (b2 isM) (mjW0 s) := by
      rw [pre, hM]
      by_cases g : (E.1 (nt + 1)).1 = 40
      · rw [if_pos g, decide_eq_true g]; rfl
      · rw [if_neg g, decide_eq_false g]; rfl
    unfold b_22_44 at pre2
    rw [x_105 (by omega), bI_s, xg_75_3, Cs.1.2.2.2.2.2.1, xg_75_0, xV_58, j_key hT A3.1 (by omega) (by omega), bL_s, yV C.pq, x_121 Cs.1 kc (by omega) h3, bI_s, show kyT E.1 nt = (E.1 nt).2.2.1 from rfl] at pre2
    have ep : prtE E (k + 2, al) (E.1 nt).2.2.1 isM = match memT E.1 E.2.1 (cK k) (E.1 nt).2.2.1 isM with
      | some m => if (!al && hidM E.1 E.2.1 m) = true then none else some (m, seenT E.1 E.2.1 k m)
      | none => none := rfl
    cases hm : memT E.1 E.2.1 (cK k) (E.1 nt).2.2.1 isM with
    | none =>
      rw [hm] at ep
      rw [hm, oI_n, if_pos rfl, xg_75_0, xV_58] at pre2
      obtain ⟨y', y1, y2, y3⟩ := j_at (d := d + 5) (k := 5) (t := nt) hT A3 (by omega) (by omega) (by decide)
      rw [y1, bN_s] at pre2
      exact ⟨fun p hp => (by rw [ep] at hp; cases hp), fun _ => ⟨y', 0, pre2, by decide, Cs.bad (by omega) y3 y2, A7.C.tr y3.C⟩⟩
    | some m =>
      obtain ⟨ml, ms, v, hv⟩ := mem_v Cs.1 kc hm
      have vv := (vw_v hn kc hv).1
      have vl := vv.lt hn
      have es : seenT E.1 E.2.1 k m = stand (nmL E.2.1) v k := by unfold seenT; rw [hv]
      have okm : okM E (m, seenT E.1 E.2.1 k m) := ⟨ml, by show vK E.2.1 (seenT E.1 E.2.1 k m); rw [es]; exact vK.stand hn vv vk⟩
      rw [hm] at ep
      dsimp only at ep
      rw [hm, oI_s, if_neg (nI_m1 (by omega)), b2_i] at pre2
      -- the second half
      have half : ∃ s1, o58 s s1 ∧ fne s1 (nt + 1) ∧ b_22_116 (mjF (d + 6)) 75 (nI k) (nI nt) (b2 isM) (nI (cK k)) (nI m) (mjW0 s) = (if b2 isM = 0 then bN (mjF (d + 6) 24 [.ref 75, .int (nI m), .int (nI nt)] (mjW0 s1)) (fun hp => b_22_176 (mjF (d + 6)) 75 (nI m) (nI (seenT E.1 E.2.1 k m)) hp) else bN (mjF (d + 6) 23 [.ref 75, .int (nI m), .int (nI nt), .int (nI (seenT E.1 E.2.1 k m))] (mjW0 s1)) (fun hp => b_22_176 (mjF (d + 6)) 75 (nI m) (nI (seenT E.1 E.2.1 k m)) hp)) := by
        have xg : o58 s (tkGo s (nt + 1)) := o58.go _ _
        have C1 : CE E N q (tkGo s (nt + 1)) j0 (cs + l.length) := Cs.go xg.oe (by rw [xg.r (by omega)]; exact A4)
        have V : VWS E.1 E.2.1 q (tkGo s (nt + 1)) := C1.1.1.2.2.2.1
        have hmc := (C1.1.2.1.2.2.2.2 m ml).2.1
        refine ⟨_, xg, A3.go _, ?_⟩
        unfold b_22_116
        rw [xg_75_0, xV_58, j_skip hT A3 (by omega), bN_s, xg_75_3, C1.1.2.2.2.2.2.1, xg_75_3, C1.1.2.2.2.2.2.1, xg_75_4, C1.1.2.2.2.2.2.2.1, ymg_2 C.pq, wya_16 C.pq (by omega), (C1.1.2.1.2.2.2.2 m ml).1, yV C.pq, x_view C.pq (by omega) (by omega), bI_s, V _ (by omega) _ (by omega), if_pos kc, hv, oI_s, yV C.pq, x_stand C.pq C1.1.1.1.2.2.2.2.2.2.1 (by omega) (by omega) (by have := vv.cl hn; omega), bI_s, ← es, xV_75, xV_75]
      cases al with
      | true =>
        rw [if_pos rfl] at pre2
        have e2 : prtE E (k + 2, true) (E.1 nt).2.2.1 isM = some (m, seenT E.1 E.2.1 k m) := by rw [ep]; rfl
        refine ⟨fun p hp => ?_, fun hp => (by rw [e2] at hp; cases hp)⟩
        rw [e2] at hp
        cases hp
        obtain ⟨s1, h1, h2, h3'⟩ := half
        exact ⟨s1, h1, h2, pre2.trans h3'⟩
      | false =>
        rw [if_neg (by decide), xg_75_4, Cs.1.2.2.2.2.2.2.1, ymV C.pq, x_99 Cs.1 ml, bI_s, b2_i] at pre2
        cases hh : hidM E.1 E.2.1 m with
        | false =>
          rw [hh] at ep pre2
          rw [if_neg (by decide)] at pre2
          have e2 : prtE E (k + 2, false) (E.1 nt).2.2.1 isM = some (m, seenT E.1 E.2.1 k m) := by rw [ep]; rfl
          refine ⟨fun p hp => ?_, fun hp => (by rw [e2] at hp; cases hp)⟩
          rw [e2] at hp
          cases hp
          obtain ⟨s1, h1, h2, h3'⟩ := half
          exact ⟨s1, h1, h2, pre2.trans h3'⟩
        | true =>
          rw [hh] at ep pre2
          rw [if_pos rfl, xg_75_0, xV_58] at pre2
          have e2 : prtE E (k + 2, false) (E.1 nt).2.2.1 isM = none := by rw [ep]; rfl
          refine ⟨fun p hp => (by rw [e2] at hp; cases hp), fun _ => ?_⟩
          obtain ⟨y', y1, y2, y3⟩ := j_at (d := d + 5) (k := 10) (t := nt) hT A3 (by omega) (by omega) (by decide)
          have B := Cs.bad (by omega) y3 y2
          obtain ⟨x', w1, w2, w3⟩ := n_116 (d := d + 3) B vk okm hv es hN1 isM
          rw [y1, bN_s, w1] at pre2
          exact ⟨x', _, pre2, st_lt B.1 okm, w2, A7.C.tr (y3.C.tr w3)⟩
end MJA31
end
section
/-! ===== the Coder: POST ===== -/
theorem pPost_pre {T : TT} {ra : Nat → Nat → PX} {kq : Nat} (hr : ∀ c kq x, ra c kq = .inr x → c < x.1) : ∀ (k : Nat) (z y : PZ), pPost T ra kq k z = .inr y → z.1 ≤ y.1 ∧ ∃ a b c, y.2.2.1 = z.2.2.1 ++ a ∧ y.2.2.2.1 = z.2.2.2.1 ++ b ∧ y.2.2.2.2 = z.2.2.2.2 ++ c
  | 0, z, y, h => by cases h; exact ⟨Nat.le_refl _, [], [], [], (List.append_nil _).symm, (List.append_nil _).symm, (List.append_nil _).symm⟩
  | k + 1, z, y, h => by
    unfold pPost at h
    by_cases g : (T z.1).1 = 20
    · rw [if_pos g] at h
      cases hd : pKind T (z.1 + 1) with
      | inl e => rw [hd] at h; cases h
      | inr c' =>
        rw [hd] at h
        have hw := pKind_len hd
        obtain ⟨h1, a, b, c, h2, h3, h4⟩ := pPost_pre hr k _ y h
        dsimp only at h1 h2 h3 h4
        exact ⟨by omega, _, _, _, by rw [h2, List.append_assoc], by rw [h3, List.append_assoc], h4⟩
    · rw [if_neg g] at h
      by_cases g2 : (T z.1).1 = 46
      · rw [if_pos g2] at h
        by_cases g3 : (T (z.1 + 1)).1 = 3
        · rw [if_pos g3] at h
          by_cases g4 : (T (z.1 + 2)).1 = 40
          · rw [if_pos g4] at h
            cases hd : ra (z.1 + 2) (kq + z.2.2.1.length) with
            | inl e => rw [hd] at h; cases h
            | inr x =>
              rw [hd] at h
              have := hr _ _ _ hd
              obtain ⟨h1, a, b, c, h2, h3, h4⟩ := pPost_pre hr k _ y h
              dsimp only at h1 h2 h3 h4
              exact ⟨by omega, _, _, _, by rw [h2, List.append_assoc], by rw [h3, List.append_assoc], by rw [h4, List.append_assoc]⟩
          · rw [if_neg g4] at h
            obtain ⟨h1, a, b, c, h2, h3, h4⟩ := pPost_pre hr k _ y h
            dsimp only at h1 h2 h3 h4
            exact ⟨by omega, _, _, _, h2, by rw [h3, List.append_assoc], h4⟩
        · rw [if_neg g3] at h; cases h
      · rw [if_neg g2] at h
        cases h
        exact ⟨Nat.le_refl _, [], [], [], (List.append_nil _).symm, (List.append_nil _).symm, (List.append_nil _).symm⟩
/-- nothing more -/
theorem pPost_end {T : TT} {ra : Nat → Nat → PX} {kq k : Nat} {z y : PZ} (h : pPost T ra kq k z = .inr y) (h61 : (T z.1).1 = 61) : y = z := by
  cases k with
  | zero => cases h; rfl
  | succ k =>
    unfold pPost at h
    rw [if_neg (by rw [h61]; decide), if_neg (by rw [h61]; decide)] at h
    cases h; rfl
section MJA32
variable {E : EV} {d N q c t n e k u v i m o w cs c0 kq nt : Nat} {s s' s0 : mjSt3} {j j0 : JS} {y z : PZ} {p : Nat × Nat} {os : List Row} {rs : List Nat} {l : List Ins} {al isM : Bool}
theorem atC.t58 (A : atC E N q s0 c0 cs j0 os s c t al l) (hq : isP q) (x : o58 s s') (f : fne s' n) (h : c ≤ n) : atC E N q s0 c0 cs j0 os s' n t al l := by
  obtain ⟨A1, A2, A3, A4, A5, A6, A7, A8⟩ := A
  have hq' : q = 2 ∨ q = 30 := hq
  exact ⟨A1, A2, f, by rw [x.r (by omega)]; exact A4, A5.keep (CP.o58 hq x), CP.trn A6 (CP.o58 hq x), A7.tr x.oe, by omega⟩
/-- codeField, where no = follows -/
theorem x_24 (C : CE E N q s0 j0 cs) (A : atC E N q s0 c0 cs j0 os s c t al l) (hcN : c ≤ N) (h61 : ¬ (E.1 c).1 = 61) (hnt : nt ≤ N) (hl : l.length + c0 < c) (hb : cs + l.length ≤ 3090) {nm : Int64} (hp : prtE E (t, al) nm false = some p) : ∃ s', mjF (d + 2) 24 [.ref 75, .int (nI p.1), .int (nI nt)] (mjW0 s) = some (none, mjW0 s') ∧ atC E N q s0 c0 cs j0 (os ++ [(10, (E.1 nt).2.1, 0, 0, nm)]) s' c (sty (nmL E.2.1) (tyM E.1 E.2.1 p.1) p.2) false (l ++ [(12, nI (numM E.1 E.2.1 p.1), (E.1 nt).2.1)]) := by
  have Cs : CE E N q s j0 (cs + l.length) := C.go A.2.2.2.2.2.2.1 A.2.2.2.1
  have d3 := Cs.1.2.1.2.2.1
  obtain ⟨kk, _, _, _, _, ok, _⟩ := prt_v C A.2.1 hp
  have hm := ok.1
  have tv : vT E.2.1 (tyM E.1 E.2.1 p.1) := ty_v C.1.hn (fun c hc => by cases hc; exact (C.1.2.1.2.2.2.2 p.1 ok.1).2.1)
  obtain ⟨s', b1, b2', b3⟩ := A.put (d := d) C 12 (nI (numM E.1 E.2.1 p.1)) (E.1 nt).2.1 (fld_row (j0 := j0) (E.1 nt).2.1 nm hp) (Or.inr (tv.sty C.1.hn ok.2)) hl (by omega)
  refine ⟨s', ?_, b2'⟩
  have f := A.2.2.1
  rw [e_24]
  unfold f_24 b_24_0
  rw [xg_75_0, xV_58, j_place Cs.TH f.1 hcN hnt, bI_s, xg_75_0, xV_58, j_is Cs.TH f.1 hcN, bI_s, i01, if_neg h61, xg_75_5, Cs.1.2.2.2.2.2.2.2, xg_75_4, Cs.1.2.2.2.2.2.2.1, ymg_5 C.pq, wya_19 C.pq (by omega), (Cs.1.1.2.2.2.2.2.1 p.1 hm).1, ycV C.pq, b1, bI_s]
/-- refuseIfInt -/
theorem x_26 (C : CB E.1 N q E.2.1 E.2.2.1 s) (g : GB N s) (ht : t ≤ N) {ty : Nat} (hv : ty < 524290) : ∃ s', mjF (d + 2) 26 [.ref 75, .int (tyI ty), .int (nI t)] (mjW0 s) = some (none, mjW0 s') ∧ o58 s s' ∧ (¬ ty = 0 → s' = s) ∧ (ty = 0 → bdd N s') := by
  have pre : mjF (d + 2) 26 [.ref 75, .int (tyI ty), .int (nI t)] (mjW0 s) = _ := e_26 (d := d + 1)
  unfold f_26 b_26_0 at pre
  have e : tyI ty = -1 ↔ ty = 0 := tyI_eq (u := 0) hv (by decide)
  by_cases h : ty = 0
  · rw [if_pos (e.mpr h), xg_75_0, xV_58] at pre
    obtain ⟨z, z1, z2, z3⟩ := j_atG (d := d) (k := 7) C.1.1.1 g ht (by decide)
    rw [z1, bN_s] at pre
    exact ⟨z, pre, z3, fun x => absurd h x, fun _ => z2⟩
  · rw [if_neg (fun x => h (e.mp x))] at pre
    exact ⟨s, pre, offG.rf, fun _ => rfl, fun x => absurd x h⟩
theorem as_row (x a : Int32) : jrow E (14, x, a, 0, 0) (jE j0 t al) = match kdE E a with
    | none => none
    | some k => if t = 0 then none else some (jE j0 (k + 2) false, [(15, nI k, x)]) := rfl
theorem jrun_no2 {a b : List Row} {r : Row} {j j1 : JS} {l : List Ins} (h : jrun E a j = some (j1, l)) (g : jrow E r j1 = none) : jrun E (a ++ [r] ++ b) j = none := by
  refine jrun_no ?_
  rw [jrun_app, h]
  dsimp only
  rw [jrun_1, g]
theorem jrun_no3 {a b : List Row} {r : Row} {j j1 : JS} {l : List Ins} (h : jrun E a j = some (j1, l)) (g : jrow E r j1 = none) : jrun E (a ++ r :: b) j = none := by
  have := jrun_no2 (b := b) h g
  rwa [List.append_assoc] at this
/-- the loop of codePost -/
theorem postC (ih : ¬ o = 12 → hE E N q (d + 5) 11 (prE E.1 (N + 1) w 0 (o + 1)) P3) (C : CE E N q s0 j0 cs) (h61 : ¬ (E.1 y.1).1 = 61) (hK : KT E.2.2.2.1 kq y.2.2.1) (hA : AG s0 y.2.2.2.2) (hb : cs + (y.1 - c0) ≤ 3090) : ∀ (k n i : Nat) (z : PZ) (s : mjSt3) (t : Nat) (al : Bool) (l : List Ins), pPost E.1 (prE E.1 (N + 1) (w + 1) 6 o) kq k z = .inr y → i + k = N + 1 → k < n → atC E N q s0 c0 cs j0 z.2.2.2.1 s z.1 t al l → z.1 ≤ N → (z.2.1 = 3 → l.length + c0 + 3 ≤ z.1) → gCo E N q s0 c0 cs j0 y.2.2.2.1 (L_15_17 (mjF (d + 7)) n 75 (b2 al) (tyI t) (nI i) (mjW0 s)) y.1 (P3 c0 y)
  | k, 0, i, z, s, t, al, l, h, hi, hk, A, hzN, hs => by omega
  | 0, n + 1, i, z, s, t, al, l, h, hi, hk, A, hzN, hs => by
    cases h
    have Cs : CE E N q s j0 (cs + l.length) := C.go A.2.2.2.2.2.2.1 A.2.2.2.1
    have hT := Cs.TH
    refine Or.inl ⟨s, t, al, l, ?_, A, hzN, hs⟩
    rw [L15_S]
    unfold b_15_17 b_15_145
    rw [xg_75_0, xV_58, sz0 hT A.2.2.1.1 hzN, bI_s, if_pos (show nI (N + 1) ≤ nI i by rw [show i = N + 1 by omega]; exact Int32.le_refl _)]
  | k + 1, n + 1, i, z, s, t, al, l, h, hi, hk, A, hzN, hs => by
    have hra : ∀ c kq x, prE E.1 (N + 1) (w + 1) 6 o c kq = .inr x → c < x.1 := fun c kq x hx => (prE_len (T := E.1) (M := N + 1) (w + 1) 6 o c kq x (by omega) hx).1
    have Cs : CE E N q s j0 (cs + l.length) := C.go A.2.2.2.2.2.2.1 A.2.2.2.1
    have hq' : q = 2 ∨ q = 30 := C.pq
    have hT := Cs.TH
    have h0 := hT.2.2.1
    have hN := hT.2.1
    have hn := C.1.hn
    have f := A.2.2.1
    have tl := A.2.1.lt hn
    have A8 := A.2.2.2.2.2.2.2
    have zy := (pPost_pre hra (k + 1) z y h).1
    have lb : cs + l.length ≤ 3090 := by omega
    have pre : L_15_17 (mjF (d + 7)) (n + 1) 75 (b2 al) (tyI t) (nI i) (mjW0 s) = _ := L15_S _ _ _ _ _ _ _
    unfold b_15_17 at pre
    rw [xg_75_0, xV_58, sz0 hT f.1 hzN, bI_s, if_neg (show ¬ nI (N + 1) ≤ nI i from nI_ge (by omega) (by omega)), xg_75_0, xV_58, j_is hT f.1 hzN, bI_s, i01, xg_75_0, xV_58, j_is hT f.1 hzN, bI_s, i01] at pre
    unfold pPost at h
    have xg : o58 s (tkGo s (z.1 + 1)) := o58.go _ _
    have C1 : CE E N q (tkGo s (z.1 + 1)) j0 (cs + l.length) := Cs.go xg.oe (by rw [xg.r (by omega)]; exact A.2.2.2.1)
    have f1 := f.go (z.1 + 1)
    have bad : ∀ (s1 : mjSt3) (vv : Nat), vv < 524290 → bdC E N q s0 j0 y.2.2.2.1 s1 → L_15_17 (mjF (d + 7)) (n + 1) 75 (b2 al) (tyI t) (nI i) (mjW0 s) = L_15_17 (mjF (d + 7)) n 75 0 (tyI vv) (nI (i + 1)) (mjW0 s1) → gCo E N q s0 c0 cs j0 y.2.2.2.1 (L_15_17 (mjF (d + 7)) (n + 1) 75 (b2 al) (tyI t) (nI i) (mjW0 s)) y.1 (P3 c0 y) := by
      intro s1 vv hv hb1 pr
      obtain ⟨n', rfl⟩ : ∃ n', n = n' + 1 := ⟨n - 1, by omega⟩
      rw [n_15l hb1.2.1] at pr
      exact Or.inr ⟨s1, vv, pr, hv, hb1⟩
    by_cases e20 : (E.1 z.1).1 = 20
    · rw [if_pos e20] at h
      have zN := lt_z h0 hzN e20 (by decide)
      rw [if_neg (by rw [e20]; decide), if_pos e20] at pre
      cases hp : pKind E.1 (z.1 + 1) with
      | inl x => rw [hp] at h; cases h
      | inr c' =>
        rw [hp] at h
        dsimp only at h
        obtain ⟨KD, ec⟩ := pKind_ok h0 (show z.1 + 1 ≤ N by omega) hp
        have cl := pKind_len hp
        have kl := KD.2.2.2.1
        obtain ⟨h1, pa, pb, pc, p1, p2, p3⟩ := pPost_pre hra k _ y h
        dsimp only at h1 p1 p2 p3
        have ha : E.2.2.2.1 (nI (kq + z.2.2.1.length)) = z.1 + 1 := by
          have K1 := (KT.app (show KT E.2.2.2.1 kq ((z.2.2.1 ++ [z.1 + 1]) ++ pa) from p1 ▸ hK)).1
          exact (KT.app K1).2 0 (z.1 + 1) rfl
        obtain ⟨G, B⟩ := x_kd (d := d + 4) C1 (by omega) f1 KD ha
        unfold b_15_52 at pre
        rw [xg_75_0, xV_58, j_now hT f.1 hzN, bI_s, xg_75_0, xV_58, j_skip hT f zN, bN_s, xg_75_0, xV_58, j_kind C1.TH f1.1 (by omega) hzN, bI_s, if_neg (show ¬ (E.1 z.1).1 = 46 by rw [e20]; decide), xg_75_2, xg_75_6, C1.2.1, xV_71] at pre
        have ar := as_row (E := E) (j0 := j0) (t := t) (al := al) (E.1 z.1).2.1 (nI (kq + z.2.2.1.length))
        cases hk' : kdE E (nI (kq + z.2.2.1.length)) with
        | none =>
          rw [hk'] at ar
          obtain ⟨kk, s1, kl2, y1, y2, y3⟩ := B hk'
          obtain ⟨s2, z1, z2, z3, z4⟩ := x_26 (d := d + 5) (t := z.1) y2.1 (GB.ob y2.2.1) hzN tl
          have b2s : BC E.1 N q E.2.1 E.2.2.1 s2 := by
            by_cases t0 : t = 0
            · exact BC.of58 y2.1 z2 (z4 t0) y2.2.2.1 y2.2.2.2
            · rw [z3 t0]; exact y2
          obtain ⟨s3, n', w1, w2, w3, w4, w5⟩ := n_emit (d := d + 6) b2s 15 (nI kk) (E.1 z.1).2.1
          rw [y1, bI_s, xV_75, z1, bN_s, xg_75_5, b2s.1.2.2.2.2.2.2.2, xg_75_0, xV_58, j_place b2s.1.1.1.1 b2s.2.1.1 (Nat.le_refl N) hzN, bI_s, ycV C.pq, w1, bI_s] at pre
          unfold b_15_137 at pre
          rw [nI_1] at pre
          refine bad s3 (kk + 2) (by omega) ⟨?_, w3, A.2.2.2.2.2.2.1.C.tr (xg.C.tr (y3.C.tr (z2.C.tr w4)))⟩ pre
          rw [p2]
          exact jrun_no2 A.1 ar
        | some kk =>
          have vk := kd_E C1 ha hk'
          have vkl := vk.lt hn
          rw [hk'] at ar
          dsimp only at ar
          have ff := f1.go (z.1 + 1 + 2 + 2 * cntO E.1 6 (z.1 + 1 + 2))
          have x2 : o58 s (tkGo (tkGo s (z.1 + 1)) (z.1 + 1 + 2 + 2 * cntO E.1 6 (z.1 + 1 + 2))) := xg.tr (o58.go _ _)
          rw [← ec] at ff x2
          have C2 : CE E N q (tkGo (tkGo s (z.1 + 1)) c') j0 (cs + l.length) := Cs.go x2.oe (by rw [x2.r (by omega)]; exact A.2.2.2.1)
          obtain ⟨s2, z1, z2, z3, z4⟩ := x_26 (d := d + 5) (t := z.1) C2.1 (GB.of ff (by omega)) hzN tl
          rw [G kk hk', ← ec, bI_s, xV_75, z1, bN_s] at pre
          by_cases t0 : t = 0
          · rw [if_pos t0] at ar
            have b2s : BC E.1 N q E.2.1 E.2.2.1 s2 := C2.bad (by omega) z2 (z4 t0)
            obtain ⟨s3, n', w1, w2, w3, w4, w5⟩ := n_emit (d := d + 6) b2s 15 (nI kk) (E.1 z.1).2.1
            rw [xg_75_5, b2s.1.2.2.2.2.2.2.2, xg_75_0, xV_58, j_place b2s.1.1.1.1 b2s.2.1.1 (Nat.le_refl N) hzN, bI_s, ycV C.pq, w1, bI_s] at pre
            unfold b_15_137 at pre
            rw [nI_1] at pre
            refine bad s3 (kk + 2) (by omega) ⟨?_, w3, A.2.2.2.2.2.2.1.C.tr (x2.C.tr (z2.C.tr w4))⟩ pre
            rw [p2]
            exact jrun_no2 A.1 ar
          · rw [if_neg t0] at ar
            rw [z3 t0] at pre
            have A2 := A.t58 C.pq x2 ff (show z.1 ≤ c' by omega)
            obtain ⟨s3, w1, w2, w3⟩ := A2.put (d := d + 6) C 15 (nI kk) (E.1 z.1).2.1 ar (Or.inr (Or.inr ⟨kk, rfl, vk⟩)) (by omega) (by omega)
            rw [xg_75_5, C2.1.2.2.2.2.2.2.2, xg_75_0, xV_58, j_place C2.TH ff.1 (by omega) hzN, bI_s, ycV C.pq, w1, bI_s] at pre
            unfold b_15_137 at pre
            rw [nI_1] at pre
            rw [pre]
            exact postC ih C h61 hK hA hb k n (i + 1) _ s3 (kk + 2) false _ h (by omega) (by omega) w2 (by show c' ≤ N; omega) (fun x => by cases x)
    rw [if_neg e20] at h
    by_cases e46 : (E.1 z.1).1 = 46
    · rw [if_pos e46] at h
      have zN := lt_z h0 hzN e46 (by decide)
      rw [if_pos e46] at pre
      unfold b_15_52 at pre
      rw [xg_75_0, xV_58, j_now hT f.1 hzN, bI_s, xg_75_0, xV_58, j_skip hT f zN, bN_s, xg_75_0, xV_58, j_kind C1.TH f1.1 (by omega) hzN, bI_s, if_pos e46, xV_75] at pre
      by_cases e3 : (E.1 (z.1 + 1)).1 = 3
      · rw [if_pos e3] at h
        have z1N := lt_z h0 (show z.1 + 1 ≤ N by omega) e3 (by decide)
        have A1 := A.t58 C.pq xg f1 (show z.1 ≤ z.1 + 1 by omega)
        by_cases e40 : (E.1 (z.1 + 2)).1 = 40
        · rw [if_pos e40] at h
          obtain ⟨G, B⟩ := x_22a (d := d) (nt := z.1 + 1) (isM := true) C A1 (by omega) lb e3 (by omega) (decide_eq_true e40).symm
          cases hd : prE E.1 (N + 1) (w + 1) 6 o (z.1 + 2) (kq + z.2.2.1.length) with
          | inl x => rw [hd] at h; cases h
          | inr x =>
            rw [hd] at h
            dsimp only at h
            have zx := hra _ _ _ hd
            obtain ⟨h1, pa, pb, pc, p1, p2, p3⟩ := pPost_pre hra k _ y h
            dsimp only at h1 p1 p2 p3
            rw [prE_6] at hd
            have K1 := (KT.app (KT.app (show KT E.2.2.2.1 kq ((z.2.2.1 ++ x.2.2.1) ++ pa) from p1 ▸ hK)).1).2
            have G1 : AG s0 x.2.2.2.2 := (AG.app (AG.app (show AG s0 ((z.2.2.2.2 ++ x.2.2.2.2) ++ pc) from p3 ▸ hA)).1).2
            cases hp : prtE E (t, al) (E.1 (z.1 + 1)).2.2.1 true with
            | none =>
              obtain ⟨s1, vv, y1, yv, y2, y3⟩ := B hp
              rw [y1, bI_s] at pre
              unfold b_15_137 at pre
              rw [nI_1] at pre
              refine bad s1 vv yv ⟨?_, y2, y3⟩ pre
              have ej : ∃ cn r, x.2.2.2.1 = oAsk E.1 (z.1 + 2) cn :: r := by
                unfold pCall at hd
                by_cases o12 : o = 12
                · rw [if_pos o12] at hd; cases hd
                · rw [if_neg o12] at hd
                  by_cases g : (E.1 (z.1 + 2 + 1)).1 = 41
                  · rw [if_pos g] at hd; cases hd; exact ⟨_, _, rfl⟩
                  · rw [if_neg g] at hd
                    cases hpa : pArgs E.1 (prE E.1 (N + 1) w 0 (o + 1)) (kq + z.2.2.1.length) 7 0 (z.1 + 2 + 1, 0, [], [], []) with
                    | inl e => rw [hpa] at hd; cases hd
                    | inr y' => rw [hpa] at hd; cases hd; exact ⟨_, _, rfl⟩
              obtain ⟨cn, r, er⟩ := ej
              rw [p2, er]
              refine jrun_no (jrun_no3 A.1 ?_)
              exact ask_no _ _ _ hp
            | some p =>
              obtain ⟨s1, x1, fs, g1⟩ := G p hp
              rw [show b2 true = (1 : Int32) from rfl, if_neg (by decide)] at g1
              have A2 := A1.t58 C.pq x1 fs (show z.1 + 1 ≤ z.1 + 1 + 1 by omega)
              obtain ⟨kk, _, _, _, _, ok, _⟩ := prt_v C A.2.1 hp
              have X := x_23 (d := d) (nt := z.1 + 1) ih C A2 (by omega) hp (by omega) e40 hd K1 (G1.oE C.pq A2.2.2.2.2.2.2.1) (by omega)
              rcases X with ⟨s2, l2, w1, w2, w3, w4⟩ | ⟨s2, w1, w2⟩
              · have CB2 := (C.go w2.2.2.2.2.2.2.1 w2.2.2.2.1).1
                rw [g1, w1, bN_s, x_176 CB2 ok, bI_s] at pre
                unfold b_15_137 at pre
                rw [nI_1] at pre
                rw [pre]
                exact postC ih C h61 hK hA hb k n (i + 1) _ s2 _ false l2 h (by omega) (by omega) w2 w3 (fun _ => w4)
              · rw [g1, w1, bN_s, x_176 w2.2.1.1 ok, bI_s] at pre
                unfold b_15_137 at pre
                rw [nI_1] at pre
                refine bad s2 _ (st_lt C.1 ok) ⟨?_, w2.2.1, w2.2.2⟩ pre
                rw [p2]
                exact jrun_no w2.1
        · rw [if_neg e40] at h
          obtain ⟨G, B⟩ := x_22a (d := d) (nt := z.1 + 1) (isM := false) C A1 (by omega) lb e3 (by omega) (decide_eq_false e40).symm
          obtain ⟨h1, pa, pb, pc, p1, p2, p3⟩ := pPost_pre hra k _ y h
          dsimp only at h1 p1 p2 p3
          have n61 : ¬ (E.1 (z.1 + 1 + 1)).1 = 61 := by
            intro g
            have := pPost_end h g
            rw [this] at h61
            exact h61 g
          cases hp : prtE E (t, al) (E.1 (z.1 + 1)).2.2.1 false with
          | none =>
            obtain ⟨s1, vv, y1, yv, y2, y3⟩ := B hp
            rw [y1, bI_s] at pre
            unfold b_15_137 at pre
            rw [nI_1] at pre
            refine bad s1 vv yv ⟨?_, y2, y3⟩ pre
            rw [p2]
            exact jrun_no2 A.1 (fld_no _ _ hp)
          | some p =>
            obtain ⟨s1, x1, fs, g1⟩ := G p hp
            rw [show b2 false = (0 : Int32) from rfl, if_pos rfl] at g1
            have A2 := A1.t58 C.pq x1 fs (show z.1 + 1 ≤ z.1 + 1 + 1 by omega)
            obtain ⟨kk, _, _, _, _, ok, _⟩ := prt_v C A.2.1 hp
            obtain ⟨s2, w1, w2⟩ := x_24 (d := d + 4) (nt := z.1 + 1) C A2 (by omega) n61 (by omega) (by omega) lb hp
            have CB2 := (C.go w2.2.2.2.2.2.2.1 w2.2.2.2.1).1
            rw [g1, w1, bN_s, x_176 CB2 ok, bI_s] at pre
            unfold b_15_137 at pre
            rw [nI_1] at pre
            rw [pre]
            exact postC ih C h61 hK hA hb k n (i + 1) _ s2 _ false _ h (by omega) (by omega) w2 (by show z.1 + 2 ≤ N; omega) (fun x => by cases x)
      · rw [if_neg e3] at h; cases h
    · rw [if_neg e46] at h
      cases h
      rw [if_neg e46, if_neg e20] at pre
      exact Or.inl ⟨s, t, al, l, pre, A, hzN, hs⟩
theorem pAtom_n3 {T : TT} {rv : Nat → Nat → PX} {o c kq : Nat} {z : PZ} (h : pAtom T rv o c kq = .inr z) : ¬ z.2.1 = 3 := by
  unfold pAtom at h
  by_cases e3 : (T c).1 = 3
  · rw [if_pos e3] at h; cases h; exact fun x => by cases x
  rw [if_neg e3] at h
  by_cases e4 : (T c).1 = 4
  · rw [if_pos e4] at h; cases h; exact fun x => by cases x
  rw [if_neg e4] at h
  by_cases e11 : (T c).1 = 11
  · rw [if_pos e11] at h; cases h; exact fun x => by cases x
  rw [if_neg e11] at h
  by_cases e12 : (T c).1 = 12
  · rw [if_pos e12] at h; cases h; exact fun x => by cases x
  rw [if_neg e12] at h
  by_cases e14 : (T c).1 = 14
  · rw [if_pos e14] at h
    cases hp : pKind T (c + 1) with
    | inl x => rw [hp] at h; cases h
    | inr c' => rw [hp] at h; cases h; exact fun x => by cases x
  rw [if_neg e14] at h
  by_cases e40 : (T c).1 = 40
  · rw [if_pos e40] at h
    by_cases o12 : o = 12
    · rw [if_pos o12] at h; cases h
    rw [if_neg o12] at h
    cases hp : rv (c + 1) kq with
    | inl x => rw [hp] at h; cases h
    | inr y =>
      rw [hp] at h
      dsimp only at h
      by_cases g : (T y.1).1 = 41
      · rw [if_pos g] at h; cases h; exact fun x => by cases x
      · rw [if_neg g] at h; cases h
  · rw [if_neg e40] at h; cases h
/-- codePost -/
theorem x_15 (ih : ¬ o = 12 → hE E N q (d + 5) 11 (prE E.1 (N + 1) w 0 (o + 1)) P3) (ih2 : ¬ o = 12 → hE E N q (d + 6) 11 (prE E.1 (N + 1) w 0 (o + 1)) P3) : hE E N q (d + 8) 15 (prE E.1 (N + 1) (w + 2) 4 o) P3 := by
  intro c kq cs s j z hc C f hz h61 hK hA hn
  have hT := C.TH
  have hra : ∀ c kq x, prE E.1 (N + 1) (w + 1) 6 o c kq = .inr x → c < x.1 := fun c kq x hx => (prE_len (T := E.1) (M := N + 1) (w + 1) 6 o c kq x (by omega) hx).1
  have pre : mjF (d + 8) 15 [.ref 75] (mjW0 s) = _ := e_15 (d := d + 7)
  unfold f_15 b_15_0 at pre
  rw [xg_75_0, xV_58, j_is hT f.1 hc, bI_s, xV_75] at pre
  rw [prE_4] at hz
  cases ha : prE E.1 (N + 1) (w + 1) 5 o c kq with
  | inl x => rw [ha] at hz; cases hz
  | inr x =>
    rw [ha] at hz
    dsimp only at hz
    obtain ⟨h1, pa, pb, pc, p1, p2, p3⟩ := pPost_pre hra _ _ z hz
    have a61 : ¬ (E.1 x.1).1 = 61 := by
      intro g
      have := pPost_end hz g
      rw [this] at h61
      exact h61 g
    have hx := (prE_len (T := E.1) (M := N + 1) (w + 1) 5 o c kq x (by omega) ha).1
    rw [prE_5] at ha
    have sh := pAtom_n3 ha
    have G := x_16 (d := d + 1) ih2 c kq cs s j x hc C f ha a61 ((KT.app (p1 ▸ hK)).1) ((AG.app (p3 ▸ hA)).1) (by omega)
    rcases G with ⟨s1, t, al, l, g1, g2, g3, g4⟩ | ⟨s1, vv, g1, g2, g3⟩
    · have g4 : al = decide ((E.1 c).1 = 12) := g4
      have eb : (if (E.1 c).1 = 12 then (1 : Int32) else 0) = b2 al := by
        rw [g4]
        by_cases g : (E.1 c).1 = 12
        · rw [if_pos g, decide_eq_true g]; rfl
        · rw [if_neg g, decide_eq_false g]; rfl
      rw [g1, bI_s, eb, show (0 : Int32) = nI 0 from rfl] at pre
      rw [pre]
      exact postC ih C h61 hK hA hn (N + 1) mjN 0 x s1 t al l hz (by omega) (by have := mjN_v; have := hT.2.1; omega) g2 g3 (fun e => absurd e sh)
    · rw [g1, bI_s, show mjN = 99999999 + 1 from rfl, n_15l g3.2.1] at pre
      refine Or.inr ⟨s1, vv, pre, g2, ?_, g3.2⟩
      rw [p2]
      exact jrun_no g3.1
end MJA32
end
