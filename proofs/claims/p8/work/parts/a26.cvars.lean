/-! ===== the Coder's VARIABLES; what it does in a bad state ===== -/
abbrev VE : Type := Int64 × Nat × Nat × Nat
/-- the VARIABLES that are known -/
def VSr (T : TT) (N : Nat) (L : List CD) (vs : List VE) (td : Nat) (s : mjSt3) : Prop := s.1 75 11 = nI vs.length ∧ s.1 75 12 = nI td ∧ vs.length ≤ td ∧ td ≤ 16 ∧ ∀ (i : Nat) (e : VE), vs[i]? = some e → s.1 77 i = tyI e.2.1 ∧ s.1 78 i = nI e.2.2.1 ∧ vT L e.2.1 ∧ e.2.2.1 < td ∧ ∃ t, t ≤ N ∧ (T t).1 = 3 ∧ kyT T t = e.1 ∧ s.2.1 76 i = s.2.1 62 t
def vsI (vs : List VE) (n : Int64) : Option Nat := fnd (fun i => match vs[i]? with
  | some e => decide (e.1 = n)
  | none => false) vs.length
theorem vsI_K (vs : List VE) (n : Int64) : vsK vs n = match vsI vs n with
    | none => none
    | some i => vs[i]? := by
  unfold vsK vsI
  cases hf : fnd (fun i => match vs[i]? with
    | some e => decide (e.1 = n)
    | none => false) vs.length with
  | none =>
    refine List.find?_eq_none.mpr (fun x hx => ?_)
    obtain ⟨i, hi, e⟩ := List.getElem_of_mem hx
    have := fnd_none.mp hf i hi
    rw [List.getElem?_eq_getElem hi, e] at this
    simpa using this
  | some i =>
    obtain ⟨a, b, c⟩ := fnd_some.mp hf
    rw [List.getElem?_eq_getElem a] at b
    show List.find? _ vs = vs[i]?
    rw [List.getElem?_eq_getElem a]
    refine List.find?_eq_some_iff_getElem.mpr ⟨by simpa using b, i, a, rfl, fun j hj => ?_⟩
    have := c j hj
    rw [List.getElem?_eq_getElem (by omega)] at this
    simpa using this
/-- a bad state of the Coder -/
def BC (T : TT) (N q : Nat) (L : List CD) (tr : Bool) (s : mjSt3) : Prop := CB T N q L tr s ∧ bdd N s ∧ (∃ n, n ≤ 3100 ∧ s.1 (q + 24) 3 = nI n) ∧ ∃ k, k ≤ 16 ∧ s.1 75 11 = nI k
section MJA26
variable {T : TT} {d N q c t n e k u v i m o w : Nat} {s s' : mjSt3} {L : List CD} {tr : Bool} {vs : List VE} {td : Nat}
theorem L18_S (R : mjR) (n a : Nat) (b : Int64) (e : Int32) (hp : mjH) : L_18_2 R (n + 1) a b e hp = b_18_2 R (L_18_2 R n) a b e hp := rfl
theorem lq_18 (h : s.1 75 11 = nI k) (hk : k ≤ 16) (R : mjR) (key : Int64) : ∀ (r i m : Nat), i + r = k → r < m → (∀ j, j < i → ¬ s.2.1 76 j = key) → L_18_2 R m 75 key (nI i) (mjW0 s) = some (some (.int (oI (fnd (fun c => decide (s.2.1 76 c = key)) k))), mjW0 s)
  | 0, i, m + 1, e, _, hb => by
    rw [L18_S]
    unfold b_18_2
    rw [xg_75_11, h, if_pos (nI_le (by omega) (by omega)), fnd_none.mpr (fun j hj => by simpa using hb j (by omega))]
    rfl
  | r + 1, i, m + 1, e, hr, hb => by
    rw [L18_S]
    unfold b_18_2
    rw [xg_75_11, h, if_neg (nI_ge (by omega) (by omega)), xg_75_8, wa_76 (by omega)]
    by_cases ek : s.2.1 76 i = key
    · rw [if_pos ((lg_cmp_eq _ _).mpr ek), show fnd (fun c => decide (s.2.1 76 c = key)) k = some i from fnd_some.mpr ⟨by omega, by simpa using ek, fun j hj => by simpa using hb j hj⟩]
      rfl
    · rw [if_neg (fun x => ek ((lg_cmp_eq _ _).mp x)), nI_1]
      refine lq_18 h hk R key r (i + 1) m (by omega) (by omega) (fun j hj => ?_)
      by_cases g : j = i
      · rw [g]; exact ek
      · exact hb j (by omega)
theorem x_18 (h : s.1 75 11 = nI k) (hk : k ≤ 16) (key : Int64) : mjF (d + 1) 18 [.ref 75, .long key] (mjW0 s) = some (some (.int (oI (fnd (fun c => decide (s.2.1 76 c = key)) k))), mjW0 s) := by
  rw [e_18]
  unfold f_18 b_18_0
  exact lq_18 h hk _ key k 0 mjN (by omega) (by have := mjN_v; omega) (fun j hj => absurd hj (by omega))
theorem fn_vs (hk : KY T N s) (V : VSr T N L vs td s) (ht : t ≤ N) (hT : (T t).1 = 3) : fnd (fun c => decide (s.2.1 76 c = s.2.1 62 t)) vs.length = vsI vs (kyT T t) := by
  refine fnd_cg (fun i hi => ?_)
  have e := List.getElem?_eq_getElem hi
  obtain ⟨_, _, _, _, t', a1, a2, a3, a4⟩ := V.2.2.2.2 i _ e
  rw [e, a4]
  show _ = decide (vs[i].1 = kyT T t)
  rw [← a3]
  exact decide_eq_decide.mpr (hk.2.2.1 _ _ a1 ht (Or.inr a2) (Or.inr hT))
/-- knownHere -/
theorem x_17 (hT : TH T N s) (hk : KY T N s) (V : VSr T N L vs td s) (f : fne s c) (hc : c < N) (h3 : (T c).1 = 3) : (∀ i, vsI vs (kyT T c) = some i → mjF (d + 2) 17 [.ref 75] (mjW0 s) = some (some (.int (nI i)), mjW0 (tkGo s (c + 1)))) ∧ (vsI vs (kyT T c) = none → ∃ s', mjF (d + 2) 17 [.ref 75] (mjW0 s) = some (some (.int (-1)), mjW0 s') ∧ bdd N s' ∧ o58 s s') := by
  have l16 : vs.length ≤ 16 := by have := V.2.2.1; have := V.2.2.2.1; omega
  have pre : mjF (d + 2) 17 [.ref 75] (mjW0 s) = _ := e_17 (d := d + 1)
  unfold f_17 b_17_0 b_17_32 at pre
  rw [xg_75_0, xg_75_0, xV_58, j_now hT f.1 (by omega), bI_s, xV_58, j_key hT f.1 (by omega) (by omega), bL_s, xV_75, x_18 V.1 l16, bI_s, fn_vs hk V (by omega) h3] at pre
  refine ⟨fun i hi => ?_, fun hi => ?_⟩
  · have := fnd_lt hi
    rw [hi, oI_s, if_neg (nI_m1 (by omega)), xg_75_0, xV_58, j_skip hT f hc, bN_s] at pre
    exact pre
  · rw [hi, oI_n, if_pos rfl, xg_75_0, xV_58] at pre
    obtain ⟨z, z1, z2, z3⟩ := j_ref (d := d) (k := 5) hT f (by omega) (by decide)
    have hz := hT.o58 z3
    rw [z1, bN_s, xg_75_0, xV_58, j_skipB hz z2, bN_s] at pre
    exact ⟨z, pre, z2, z3⟩
/-! in a bad state -/
theorem BC.oo (B : BC T N q L tr s) (x : oC q s s') (b : bdd N s') (n1 : ∃ n, n ≤ 3100 ∧ s'.1 (q + 24) 3 = nI n) (k1 : ∃ k, k ≤ 16 ∧ s'.1 75 11 = nI k) : BC T N q L tr s' := ⟨B.1.oC x, b, n1, k1⟩
theorem BC.of58 (C : CB T N q L tr s) (x : o58 s s') (b : bdd N s') (n1 : ∃ n, n ≤ 3100 ∧ s.1 (q + 24) 3 = nI n) (k1 : ∃ k, k ≤ 16 ∧ s.1 75 11 = nI k) : BC T N q L tr s' := by
  have hq : q = 2 ∨ q = 30 := C.pq
  exact ⟨C.oC x.C, b, by rw [x.r (by omega)]; exact n1, by rw [x.r (by omega)]; exact k1⟩
theorem n_emit (B : BC T N q L tr s) (a b c' : Int32) : ∃ s' n', mjF (d + 1) 1 [.ref (q + 24), .int a, .int b, .int c'] (mjW0 s) = some (some (.int (nI n')), mjW0 s') ∧ n' ≤ 3100 ∧ BC T N q L tr s' ∧ oC q s s' ∧ s'.1 75 = s.1 75 := by
  obtain ⟨C, bb, ⟨n, n1, n2⟩, k1⟩ := id B
  obtain ⟨s', m, a1, a2, a3, a4, a5, a6⟩ := x_1B (d := d) C.pq n2 n1 a b c'
  exact ⟨s', n, a1, n1, B.oo a2 ⟨by rw [a3]; exact bb.1, by rw [a3]; exact bb.2⟩ ⟨m, a6, a5⟩ (by rw [a4]; exact k1), a2, a4⟩
theorem xcV {u : mjU} (hq : isP q) : rV (mjW0 s) (q + 24) 0 u = u := ycV hq
theorem kN0 (B : BC T N q L tr s) {k : Int32} (h : ¬ k = 0) : mjF (d + 1) 164 [.ref 58, .int k] (mjW0 s) = some (some (.int 0), mjW0 s) := by
  have hT := B.1.1.1.1
  rw [j_is hT B.2.1.1 (Nat.le_refl N), if_neg (by rw [hT.2.2.1]; exact fun x => h x.symm)]
theorem sz0 (hT : TH T N s) (f : s.1 58 6 = nI c) (hc : c ≤ N) : mjF (d + 1) 171 [.ref 58] (mjW0 s) = some (some (.int (nI (N + 1))), mjW0 s) := x_size ⟨f, hT.1, by omega, by have := hT.2.1; omega⟩
theorem n_16 (B : BC T N q L tr s) : ∃ s', mjF (d + 2) 16 [.ref 75] (mjW0 s) = some (some (.int (-1)), mjW0 s') ∧ BC T N q L tr s' ∧ oC q s s' ∧ s'.1 75 = s.1 75 := by
  have hT := B.1.1.1.1
  have C := B.1
  have pre : mjF (d + 2) 16 [.ref 75] (mjW0 s) = _ := e_16 (d := d + 1)
  unfold f_16 b_16_0 at pre
  have k0 : mjF (d + 1) 173 [.ref 58] (mjW0 s) = some (some (.int 0), mjW0 s) := by
    rw [x_kindNow (tk_b hT B.2.1), (hT.2.2.2 N (Nat.le_refl N)).1, hT.2.2.1]
  rw [xg_75_0, xV_58, k0, bI_s, if_neg (by decide), if_neg (by decide), if_neg (by decide), if_neg (by decide), if_neg (by decide), xg_75_5, C.2.2.2.2.2.2.2, xg_75_0, xg_75_0, xV_58, j_now hT B.2.1.1 (Nat.le_refl N), bI_s, xV_58, j_key hT B.2.1.1 (Nat.le_refl N) (Nat.le_refl N), bL_s, ycV C.pq] at pre
  obtain ⟨z, n', z1, z2, z3, z4, z5⟩ := n_emit (d := d) B 0 ((s.2.1 62 N).toInt32) (-1)
  rw [z1, bI_s, xg_75_0, xV_58, j_skipB z3.1.1.1.1 z3.2.1, bN_s] at pre
  exact ⟨z, pre, z3, z4, z5⟩
theorem L15_S (R : mjR) (n a : Nat) (b e f : Int32) (hp : mjH) : L_15_17 R (n + 1) a b e f hp = b_15_17 R (L_15_17 R n) a b e f hp := rfl
theorem n_15l (B : BC T N q L tr s) (n : Nat) (a b e : Int32) : L_15_17 (mjF (d + 1)) (n + 1) 75 a b e (mjW0 s) = some (some (.int b), mjW0 s) := by
  have hT := B.1.1.1.1
  rw [L15_S]
  unfold b_15_17 b_15_145
  rw [xg_75_0, xV_58, sz0 hT B.2.1.1 (Nat.le_refl N), bI_s, xg_75_0, xV_58, kN0 B (by decide), bI_s, if_pos rfl, xg_75_0, xV_58, kN0 B (by decide), bI_s, if_pos rfl, ite_self]
theorem n_15 (B : BC T N q L tr s) : ∃ s', mjF (d + 3) 15 [.ref 75] (mjW0 s) = some (some (.int (-1)), mjW0 s') ∧ BC T N q L tr s' ∧ oC q s s' ∧ s'.1 75 = s.1 75 := by
  obtain ⟨z, z1, z2, z3, z4⟩ := n_16 (d := d) B
  refine ⟨z, ?_, z2, z3, z4⟩
  rw [e_15]
  unfold f_15 b_15_0
  rw [xg_75_0, xV_58, kN0 B (by decide), bI_s, xV_75, z1, bI_s, show mjN = 99999999 + 1 from rfl, n_15l z2]
theorem n_14 (B : BC T N q L tr s) : ∃ s', mjF (d + 4) 14 [.ref 75] (mjW0 s) = some (some (.int (-1)), mjW0 s') ∧ BC T N q L tr s' ∧ oC q s s' ∧ s'.1 75 = s.1 75 := by
  obtain ⟨z, z1, z2, z3, z4⟩ := n_15 (d := d) B
  refine ⟨z, ?_, z2, z3, z4⟩
  rw [e_14]
  unfold f_14 b_14_0
  rw [xg_75_0, xV_58, kN0 B (by decide), bI_s, if_pos rfl, xV_75, z1, bI_s]
theorem L13_S (R : mjR) (n a : Nat) (b e : Int32) (hp : mjH) : L_13_7 R (n + 1) a b e hp = b_13_7 R (L_13_7 R n) a b e hp := rfl
theorem L12_S (R : mjR) (n a : Nat) (b e : Int32) (hp : mjH) : L_12_7 R (n + 1) a b e hp = b_12_7 R (L_12_7 R n) a b e hp := rfl
theorem n_13 (B : BC T N q L tr s) : ∃ s', mjF (d + 5) 13 [.ref 75] (mjW0 s) = some (some (.int (-1)), mjW0 s') ∧ BC T N q L tr s' ∧ oC q s s' ∧ s'.1 75 = s.1 75 := by
  obtain ⟨z, z1, z2, z3, z4⟩ := n_14 (d := d) B
  refine ⟨z, ?_, z2, z3, z4⟩
  have hT := z2.1.1.1.1
  have k60 : z.1 60 N = 0 := by rw [(hT.2.2.2 N (Nat.le_refl N)).1, hT.2.2.1]
  rw [e_13]
  unfold f_13 b_13_0
  rw [xV_75, z1, bI_s, show mjN = 99999999 + 1 from rfl, L13_S]
  unfold b_13_7 b_13_65
  rw [xg_75_0, xV_58, sz0 hT z2.2.1.1 (Nat.le_refl N), bI_s, xg_75_0, xV_58, x_product (tk_b hT z2.2.1), bI_s, k60, i01, if_neg (show ¬ ((0 : Int32) = 42 ∨ (0 : Int32) = 47 ∨ (0 : Int32) = 37) by decide), ite_self]
theorem n_12 (B : BC T N q L tr s) : ∃ s', mjF (d + 6) 12 [.ref 75] (mjW0 s) = some (some (.int (-1)), mjW0 s') ∧ BC T N q L tr s' ∧ oC q s s' ∧ s'.1 75 = s.1 75 := by
  obtain ⟨z, z1, z2, z3, z4⟩ := n_13 (d := d) B
  refine ⟨z, ?_, z2, z3, z4⟩
  have hT := z2.1.1.1.1
  have k60 : z.1 60 N = 0 := by rw [(hT.2.2.2 N (Nat.le_refl N)).1, hT.2.2.1]
  rw [e_12]
  unfold f_12 b_12_0
  rw [xV_75, z1, bI_s, show mjN = 99999999 + 1 from rfl, L12_S]
  unfold b_12_7 b_12_65
  rw [xg_75_0, xV_58, sz0 hT z2.2.1.1 (Nat.le_refl N), bI_s, xg_75_0, xV_58, x_sum (tk_b hT z2.2.1), bI_s, k60, i01, if_neg (show ¬ ((0 : Int32) = 43 ∨ (0 : Int32) = 45) by decide), ite_self]
theorem n_11 (B : BC T N q L tr s) : ∃ s', mjF (d + 7) 11 [.ref 75] (mjW0 s) = some (some (.int (-1)), mjW0 s') ∧ BC T N q L tr s' ∧ oC q s s' ∧ s'.1 75 = s.1 75 := by
  obtain ⟨z, z1, z2, z3, z4⟩ := n_12 (d := d) B
  refine ⟨z, ?_, z2, z3, z4⟩
  have hT := z2.1.1.1.1
  have k60 : z.1 60 N = 0 := by rw [(hT.2.2.2 N (Nat.le_refl N)).1, hT.2.2.1]
  rw [e_11]
  unfold f_11 b_11_0
  rw [xV_75, z1, bI_s, xg_75_0, xV_58, x_compare (tk_b hT z2.2.1), bI_s, k60, if_pos (by decide)]
/-- codeFitting -/
theorem n_32 (B : BC T N q L tr s) (w : Int32) : ∃ s', mjF (d + 8) 32 [.ref 75, .int w] (mjW0 s) = some (none, mjW0 s') ∧ BC T N q L tr s' ∧ oC q s s' ∧ s'.1 75 = s.1 75 := by
  obtain ⟨z, z1, z2, z3, z4⟩ := n_11 (d := d) B
  refine ⟨z, ?_, z2, z3, z4⟩
  have hT := B.1.1.1.1
  have hz := z2.1.1.1.1
  have f : ∃ b : Int32, mjF (d + 7) 123 [.ref q, .int (-1), .int w] (mjW0 z) = some (some (.int b), mjW0 z) := by
    rw [e_123]
    unfold f_123 b_123_0 b_123_25
    rw [if_neg (by decide), if_pos (by decide)]
    by_cases g : (-1 : Int32) = w
    · exact ⟨1, by rw [if_pos g]⟩
    · exact ⟨0, by rw [if_neg g]⟩
  obtain ⟨b, hb⟩ := f
  rw [e_32]
  unfold f_32 b_32_0 b_32_40
  rw [xg_75_0, xV_58, j_now hT B.2.1.1 (Nat.le_refl N), bI_s, xg_75_0, xV_58, j_skipB hT B.2.1, bN_s, xg_75_3, B.1.2.2.2.2.2.1, xV_75, z1, bI_s, yV B.1.pq, hb, bI_s, xg_75_0, xV_58, j_atB hz z2.2.1, bN_s, xg_75_0, xV_58, j_skipB hz z2.2.1, bN_s, ite_self]
theorem L7_S (R : mjR) (n a : Nat) (b e : Int32) (hp : mjH) : L_7_14 R (n + 1) a b e hp = b_7_14 R (L_7_14 R n) a b e hp := rfl
/-- codeBlock -/
theorem n_7l (B : BC T N q L tr s) (hk : k ≤ 16) (n : Nat) (i : Int32) : ∃ s', L_7_14 (mjF (d + 1)) (n + 1) 75 (nI k) i (mjW0 s) = some (none, mjW0 s') ∧ BC T N q L tr s' ∧ oC q s s' := by
  have hT := B.1.1.1.1
  obtain ⟨z, hz⟩ : ∃ z, z = uI s 75 (upd (s.1 75) 11 (nI k)) := ⟨_, rfl⟩
  have oz : oC q s z := by rw [hz]; exact offG.w (Or.inr (Or.inl ⟨rfl, by omega, by omega⟩))
  have hq : q = 2 ∨ q = 30 := B.1.pq
  refine ⟨z, ?_, B.oo oz ?_ ?_ ⟨k, hk, by rw [hz, uI_same, upd_g, if_pos rfl]⟩, oz⟩
  · have e57 : b_7_57 (mjF (d + 1)) 75 (nI k) (mjW0 s) = some (none, mjW0 z) := by
      unfold b_7_57
      rw [xg_75_0, xV_58, j_skipB hT B.2.1, bN_s, xp_75_11, hz]
    rw [L7_S]
    unfold b_7_14
    rw [xg_75_0, xV_58, sz0 hT B.2.1.1 (Nat.le_refl N), bI_s, xg_75_0, xV_58, kN0 B (by decide), bI_s, if_pos rfl, xg_75_0, xV_58, j_fineB B.2.1, bI_s, if_pos rfl, e57, ite_self]
  · rw [hz]; exact ⟨by rw [uI_ne _ _ _ _ (by decide)]; exact B.2.1.1, by rw [uI_ne _ _ _ _ (by decide)]; exact B.2.1.2⟩
  · rw [hz, uI_ne _ _ _ _ (by omega)]; exact B.2.2.1
theorem n_7 (B : BC T N q L tr s) : ∃ s', mjF (d + 2) 7 [.ref 75] (mjW0 s) = some (none, mjW0 s') ∧ BC T N q L tr s' ∧ oC q s s' := by
  have hT := B.1.1.1.1
  obtain ⟨k, k1, k2⟩ := B.2.2.2
  obtain ⟨z, z1, z2, z3⟩ := n_7l (d := d) B k1 99999999 0
  refine ⟨z, ?_, z2, z3⟩
  rw [e_7]
  unfold f_7 b_7_0
  rw [xg_75_11, k2, xg_75_0, xV_58, j_skipB hT B.2.1, bN_s]
  exact z1
/-- codeCondition -/
theorem n_10 (B : BC T N q L tr s) : ∃ s' n', mjF (d + 8) 10 [.ref 75] (mjW0 s) = some (some (.int (nI n')), mjW0 s') ∧ n' ≤ 3100 ∧ BC T N q L tr s' ∧ oC q s s' := by
  have hT := B.1.1.1.1
  obtain ⟨z, z1, z2, z3, z4⟩ := n_11 (d := d) B
  have hz := z2.1.1.1.1
  obtain ⟨y, n', y1, y2, y3, y4, y5⟩ := n_emit (d := d + 6) z2 7 0 (-1)
  refine ⟨y, n', ?_, y2, y3, z3.tr y4⟩
  have e27 : mjF (d + 7) 27 [.ref 75, .int (-1), .int (nI N)] (mjW0 z) = some (none, mjW0 z) := by
    rw [e_27]
    unfold f_27 b_27_0
    rw [if_pos rfl]
  rw [e_10]
  unfold f_10 b_10_0
  rw [xg_75_0, xV_58, j_now hT B.2.1.1 (Nat.le_refl N), bI_s, xg_75_0, xV_58, j_skipB hT B.2.1, bN_s, xg_75_0, xV_58, j_skipB hT B.2.1, bN_s, xV_75, z1, bI_s, xV_75, e27, bN_s, xg_75_0, xV_58, j_skipB hz z2.2.1, bN_s, xg_75_5, z2.1.2.2.2.2.2.2.2, ycV B.1.pq, y1, bI_s]
/-- know -/
theorem n_6 (B : BC T N q L tr s) (key : Int64) (w : Int32) : ∃ s', mjF (d + 1) 6 [.ref 75, .long key, .int w] (mjW0 s) = some (none, mjW0 s') ∧ BC T N q L tr s' ∧ oC q s s' := by
  obtain ⟨k, k1, k2⟩ := B.2.2.2
  have hq : q = 2 ∨ q = 30 := B.1.pq
  have pre : mjF (d + 1) 6 [.ref 75, .long key, .int w] (mjW0 s) = _ := e_6 (d := d)
  unfold f_6 b_6_0 at pre
  rw [xg_75_11, k2, xg_75_8, xN_76] at pre
  by_cases h : k = 16
  · rw [if_pos (show Int32.ofNat 16 ≤ nI k by rw [h]; decide)] at pre
    exact ⟨s, pre, B, offG.rf⟩
  · rw [if_neg (show ¬ Int32.ofNat 16 ≤ nI k from nI_ge (b := 16) (by omega) (by decide)), xg_75_8, xg_75_11, k2, ws_76 (by omega)] at pre
    obtain ⟨z1, h1⟩ : ∃ z, z = uL s 76 (vp_updL (s.2.1 76) k key) := ⟨_, rfl⟩
    have e1 : z1.1 = s.1 := by rw [h1]; rfl
    rw [← h1, xg_75_9, xg_75_11, e1, k2, ws_77 (by omega)] at pre
    obtain ⟨z2, h2⟩ : ∃ z, z = uI z1 77 (upd (z1.1 77) k w) := ⟨_, rfl⟩
    have e2 : z2.1 75 = s.1 75 := by rw [h2, uI_ne _ _ _ _ (by decide), e1]
    rw [← h2, xg_75_10, xg_75_11, e2, k2, xg_75_12, e2, ws_78 (by omega)] at pre
    obtain ⟨z3, h3⟩ : ∃ z, z = uI z2 78 (upd (z2.1 78) k (s.1 75 12)) := ⟨_, rfl⟩
    have e3 : z3.1 75 = s.1 75 := by rw [h3, uI_ne _ _ _ _ (by decide), e2]
    rw [← h3, xg_75_11, e3, k2, nI_1, xp_75_11] at pre
    obtain ⟨z4, h4⟩ : ∃ z, z = uI z3 75 (upd (z3.1 75) 11 (nI (k + 1))) := ⟨_, rfl⟩
    rw [← h4, xg_75_12, xp_75_12] at pre
    obtain ⟨z5, h5⟩ : ∃ z, z = uI z4 75 (upd (z4.1 75) 12 (z4.1 75 12 + 1)) := ⟨_, rfl⟩
    rw [← h5] at pre
    have o1 : oC q s z1 := by rw [h1]; exact offG.wl rfl
    have o2 : oC q z1 z2 := by rw [h2]; exact offG.w (Or.inr (Or.inr (Or.inl rfl)))
    have o3 : oC q z2 z3 := by rw [h3]; exact offG.w (Or.inr (Or.inr (Or.inr (Or.inl rfl))))
    have o4 : oC q z3 z4 := by rw [h4]; exact offG.w (Or.inr (Or.inl ⟨rfl, by omega, by omega⟩))
    have o5 : oC q z4 z5 := by rw [h5]; exact offG.w (Or.inr (Or.inl ⟨rfl, by omega, by omega⟩))
    have ox : oC q s z5 := o1.tr (o2.tr (o3.tr (o4.tr o5)))
    have r5 : ∀ x, ¬ x = 75 → ¬ x = 77 → ¬ x = 78 → z5.1 x = s.1 x := fun x a b c => by rw [h5, uI_ne _ _ _ _ a, h4, uI_ne _ _ _ _ a, h3, uI_ne _ _ _ _ c, h2, uI_ne _ _ _ _ b, e1]
    refine ⟨z5, pre, B.oo ox ⟨by rw [r5 58 (by decide) (by decide) (by decide)]; exact B.2.1.1, by rw [r5 58 (by decide) (by decide) (by decide)]; exact B.2.1.2⟩ (by rw [r5 _ (by omega) (by omega) (by omega)]; exact B.2.2.1) ⟨k + 1, by omega, ?_⟩, ox⟩
    rw [h5, uI_same, upd_g, if_neg (by decide), h4, uI_same, upd_g, if_pos rfl]
/-- newNameHere -/
theorem n_33 (B : BC T N q L tr s) : ∃ key, mjF (d + 2) 33 [.ref 75] (mjW0 s) = some (some (.long key), mjW0 s) := by
  have hT := B.1.1.1.1
  obtain ⟨k, k1, k2⟩ := B.2.2.2
  refine ⟨s.2.1 62 N, ?_⟩
  rw [e_33]
  unfold f_33 b_33_0 b_33_32
  rw [xg_75_0, xg_75_0, xV_58, j_now hT B.2.1.1 (Nat.le_refl N), bI_s, xV_58, j_key hT B.2.1.1 (Nat.le_refl N) (Nat.le_refl N), bL_s, xV_75, x_18 k2 k1, bI_s]
  by_cases g : oI (fnd (fun c => decide (s.2.1 76 c = s.2.1 62 N)) k) = -1
  · rw [if_pos g, xg_75_0, xV_58, j_skipB hT B.2.1, bN_s]
  · rw [if_neg g, xg_75_0, xV_58, j_refB hT B.2.1, bN_s, xg_75_0, xV_58, j_skipB hT B.2.1, bN_s]
/-- codeLeft -/
theorem n_34 (B : BC T N q L tr s) : ∃ s', mjF (d + 8) 34 [.ref 75] (mjW0 s) = some (some (.int 5), mjW0 s') ∧ BC T N q L tr s' ∧ oC q s s' := by
  have hT := B.1.1.1.1
  have hq : q = 2 ∨ q = 30 := B.1.pq
  obtain ⟨z, z1, z2, z3, z4⟩ := n_11 (d := d) B
  have pre : mjF (d + 8) 34 [.ref 75] (mjW0 s) = _ := e_34 (d := d + 7)
  unfold f_34 b_34_0 b_34_62 b_34_96 at pre
  rw [xg_75_0, xV_58, kN0 B (by decide), bI_s, if_pos rfl, xV_75, z1, bI_s, xp_75_16] at pre
  obtain ⟨y, hy⟩ : ∃ y, y = uI z 75 (upd (z.1 75) 16 (-1)) := ⟨_, rfl⟩
  have oy : oC q z y := by rw [hy]; exact offG.w (by omega)
  have by_ : BC T N q L tr y := z2.oo oy (by rw [hy]; exact ⟨by rw [uI_ne _ _ _ _ (by decide)]; exact z2.2.1.1, by rw [uI_ne _ _ _ _ (by decide)]; exact z2.2.1.2⟩) (by rw [hy, uI_ne _ _ _ _ (by omega)]; exact z2.2.2.1) (by rw [hy, uI_same]; exact z2.2.2.2)
  rw [← hy, xg_75_0, xV_58, kN0 by_ (by decide), bI_s, if_pos rfl, xg_75_0, xV_58, j_skipB by_.1.1.1.1 by_.2.1, bN_s, xV_75, e_25 (d := d + 6)] at pre
  unfold f_25 b_25_0 at pre
  rw [xp_75_13, xp_75_14, xp_75_15, bN_s, xg_75_13] at pre
  obtain ⟨x1, h1⟩ : ∃ x, x = uI y 75 (upd (y.1 75) 13 5) := ⟨_, rfl⟩
  obtain ⟨x2, h2⟩ : ∃ x, x = uI x1 75 (upd (x1.1 75) 14 0) := ⟨_, rfl⟩
  obtain ⟨x3, h3⟩ : ∃ x, x = uI x2 75 (upd (x2.1 75) 15 (-1)) := ⟨_, rfl⟩
  rw [← h1, ← h2, ← h3] at pre
  have ox : oC q y x3 := by
    rw [h3, h2, h1]
    exact ((offG.w (by omega)).tr (offG.w (h := 75) (j := 14) (by omega))).tr (offG.w (h := 75) (j := 15) (by omega))
  have r3 : ∀ x, ¬ x = 75 → x3.1 x = y.1 x := fun x a => by rw [h3, uI_ne _ _ _ _ a, h2, uI_ne _ _ _ _ a, h1, uI_ne _ _ _ _ a]
  have g3 : ∀ j, ¬ j = 13 → ¬ j = 14 → ¬ j = 15 → x3.1 75 j = y.1 75 j := fun j a b c => by rw [h3, uI_same, upd_g, if_neg c, h2, uI_same, upd_g, if_neg b, h1, uI_same, upd_g, if_neg a]
  have e13 : x3.1 75 13 = 5 := by rw [h3, uI_same, upd_g, if_neg (by decide), h2, uI_same, upd_g, if_neg (by decide), h1, uI_same, upd_g, if_pos rfl]
  refine ⟨x3, by rw [pre, e13], by_.oo ox ⟨by rw [r3 58 (by decide)]; exact by_.2.1.1, by rw [r3 58 (by decide)]; exact by_.2.1.2⟩ (by rw [r3 _ (by omega)]; exact by_.2.2.1) (by rw [g3 11 (by decide) (by decide) (by decide)]; exact by_.2.2.2), z3.tr (oy.tr ox)⟩
end MJA26
