/-! ===== (e): what is from above ===== -/
/-- a TYPE in which the NAMES stand for a KIND's OWNERS -/
def sty (nm : Nat → Nat) (t v : Nat) : Nat := match t with
  | k + 2 => stand nm k v + 2
  | t => t
def vT (L : List CD) (t : Nat) : Prop := t = 0 ∨ ∃ k, t = k + 2 ∧ vK L k
/-- the TYPE of MEMBER m -/
def tyM (T : TT) (L : List CD) (m : Nat) : Nat := tyT T L (some (hmM L m)) (mdM L m).1
def mSM (L : List CD) (m : Nat) : Bool := (mdM L m).2.2.1
/-- MEMBER m has the TYPES of o, seen with the OWNERS v -/
def samV (T : TT) (L : List CD) (m o v : Nat) : Prop := tyM T L m = sty (nmL L) (tyM T L o) v ∧ (psM L m).length = (psM L o).length ∧ ∀ i, i < (psM L m).length → pyT T L m i = sty (nmL L) (pyT T L o i) v
def samM (T : TT) (L : List CD) (m o : Nat) : Prop := ∀ v, vwT (nmL L) (abT T L) (hmM L m) (hmM L o) = some v → samV T L m o v
def anc (up : Nat → Option Nat) : Nat → Option Nat → List Nat
  | 0, _ => []
  | _ + 1, none => []
  | k + 1, some a => a :: anc up k (up a)
/-- the CLASSES above MEMBER m's own -/
def ancM (T : TT) (L : List CD) (m : Nat) : List Nat := anc (upT T L) 16 (upT T L (hmM L m))
def nearM (T : TT) (L : List CD) (m : Nat) : Option Nat := (ancM T L m).findSome? (fun a => omT T L a (nkM T L m))
def OKe (T : TT) (L : List CD) (m : Nat) : Prop := (∀ a, a ∈ ancM T L m → ∀ o, omT T L a (nkM T L m) = some o → mSM L m = true ∧ mSM L o = true) ∧ ∀ o, nearM T L m = some o → samM T L m o
section MJA19
variable {T : TT} {d N q c t n e k u v i m o : Nat} {s s' : mjSt3} {L : List CD} {h : Option Nat}
theorem ty_v (hn : HN T N L) (hh : ∀ c, h = some c → c < L.length) : vT L (tyT T L h t) := by
  unfold tyT
  by_cases g : (T t).1 = 10
  · rw [if_pos g]; exact Or.inl rfl
  · rw [if_neg g]
    cases hk : kdT T L h false t with
    | none => exact Or.inl rfl
    | some k =>
      obtain ⟨_, _, _, _, _, _, v⟩ := kd_v hn hh hk
      exact Or.inr ⟨k, rfl, v⟩
theorem vT.lt (hn : HN T N L) (v : vT L t) : t < 524290 := by
  rcases v with v | ⟨k, v, w⟩
  · omega
  · have := w.lt hn; omega
theorem py_v (hn : HN T N L) (hm : hmM L m < L.length) : vT L (pyT T L m i) := by
  unfold pyT
  cases (psM L m)[i]? with
  | none => exact Or.inl rfl
  | some p => exact ty_v hn (fun c hc => by cases hc; exact hm)
theorem vT.sty (hn : HN T N L) (ht : vT L t) (hv : vK L v) : vT L (sty (nmL L) t v) := by
  rcases ht with e | ⟨k, e, w⟩
  · rw [e]; exact Or.inl rfl
  · rw [e]; exact Or.inr ⟨_, rfl, vK.stand hn w hv⟩
theorem x_sty (hn : HN T N L) (hq : isP q) (hm : pnm q s (nmL L)) (ht : vT L t) (hv : vK L v) : mjF (d + 2) 112 [.ref q, .int (tyI t), .int (nI v)] (mjW0 s) = some (some (.int (tyI (sty (nmL L) t v))), mjW0 s) := by
  have h16 := hn.1
  rcases ht with e | ⟨k, e, w⟩
  · rw [e]
    exact x_standN (by decide)
  · rw [e]
    have kl := w.lt hn
    have vl := hv.lt hn
    exact x_stand hq hm (by omega) (by omega) (by have := w.cl hn; omega)
theorem x_98 (hq : isP q) (hm : m < 385) (hi : i < 6) : mjF (d + 1) 98 [.ref (q + 14), .int (nI m), .int (nI i)] (mjW0 s) = some (some (.int (s.1 (q + 21) (6 * m + i))), mjW0 s) := by
  rw [e_98]
  unfold f_98 b_98_0
  rw [ymg_7 hq, show nI m * (6 : Int32) + nI i = nI (6 * m + i) by rw [show (6 : Int32) = nI 6 from rfl, nI_mul, nI_add, Nat.mul_comm], wya_21 hq (by omega)]
theorem L71j_S (R : mjR) (n a : Nat) (b e f g i : Int32) (hp : mjH) : L_71_86 R (n + 1) a b e f g i hp = b_71_86 R (L_71_86 R n) a b e f g i hp := rfl
theorem lq_71jz (R : mjR) (n : Nat) (a b e f : Int32) (hp : mjH) : L_71_86 R (n + 1) 71 a b e 0 f hp = some (some (.int (b2 false)), hp) := by
  rw [L71j_S]
  unfold b_71_86 b_71_149
  rw [if_pos rfl, if_pos (by decide)]
  rfl
theorem lq_71j (X : JX T N q L s) (D : RDM T N q L s) (P : PFm T N L) (hm : m < nMem L) (ho : o < nMem L) (Ym : TYr T L q s m) (Yo : TYr T L q s o) (hv : vK L v) (hl : (psM L m).length = (psM L o).length) : ∀ (r i n : Nat), i + r = (psM L m).length → r + 1 < n → (∀ j, j < i → pyT T L m j = sty (nmL L) (pyT T L o j) v) → ∃ b : Bool, L_71_86 (mjF (d + 3)) n 71 (nI m) (nI o) (nI v) 1 (nI i) (mjW0 s) = some (some (.int (b2 b)), mjW0 s) ∧ (b = true ↔ ∀ j, j < (psM L m).length → pyT T L m j = sty (nmL L) (pyT T L o j) v)
  | 0, i, n + 1, e, _, w => by
    have hq := X.2.2.2.2.1
    obtain ⟨d1, d2, d3, d4, d5⟩ := D
    have l6 : (psM L m).length ≤ 6 := (P m hm).2.2.2.2.1
    refine ⟨true, ?_, fun _ j hj => w j (by omega), fun _ => rfl⟩
    rw [L71j_S]
    unfold b_71_86 b_71_149
    rw [if_neg (by decide), xg_71_3, X.2.2.2.2.2.1.2, ymg_6 hq, wya_20 hq (by omega), (d5 m hm).2.2.2.2.2.2, show (mdM L m).2.2.2.1.length = (psM L m).length from rfl, if_pos (nI_le (by omega) (by omega)), if_pos (by decide)]
    rfl
  | r + 1, i, n + 1, e, hr, w => by
    have hq := X.2.2.2.2.1
    have hn := X.2.2.1
    have D0 := D
    obtain ⟨d1, d2, d3, d4, d5⟩ := D
    have l6 : (psM L m).length ≤ 6 := (P m hm).2.2.2.2.1
    have vm := py_v (T := T) (i := i) hn (d5 m hm).2.1
    have vo := py_v (T := T) (i := i) hn (d5 o ho).2.1
    have vs := vo.sty hn hv
    have pre : L_71_86 (mjF (d + 3)) (n + 1) 71 (nI m) (nI o) (nI v) 1 (nI i) (mjW0 s) = _ := L71j_S _ _ _ _ _ _ _ _ _
    unfold b_71_86 b_71_141 at pre
    rw [if_neg (by decide), xg_71_3, X.2.2.2.2.2.1.2, ymg_6 hq, wya_20 hq (by omega), (d5 m hm).2.2.2.2.2.2, show (mdM L m).2.2.2.1.length = (psM L m).length from rfl, if_neg (nI_ge (by omega) (by omega)), xg_71_3, X.2.2.2.2.2.1.2, ymV hq, x_98 hq (by omega) (by omega), bI_s, xg_71_2, X.2.2.2.2.2.1.1, xg_71_3, X.2.2.2.2.2.1.2, ymV hq, x_98 hq (by omega) (by omega), bI_s, yV hq, Ym.2 i (by omega), Yo.2 i (by omega), x_sty hn hq X.2.2.2.2.2.2.1 vo hv, bI_s, nI_1] at pre
    by_cases g : pyT T L m i = sty (nmL L) (pyT T L o i) v
    · rw [if_pos (by rw [g])] at pre
      obtain ⟨b, b1, b2'⟩ := lq_71j X D0 P hm ho Ym Yo hv hl r (i + 1) n (by omega) (by omega) (fun j hj => by
        by_cases ej : j = i
        · rw [ej]; exact g
        · exact w j (by omega))
      exact ⟨b, pre.trans b1, b2'⟩
    · rw [if_neg (fun x => g ((tyI_eq (vm.lt hn) (vs.lt hn)).mp x))] at pre
      obtain ⟨n', rfl⟩ : ∃ n', n = n' + 1 := ⟨n - 1, by omega⟩
      rw [lq_71jz] at pre
      exact ⟨false, pre, fun h => (by cases h), fun h => absurd (h i (by omega)) g⟩
/-- isSame -/
theorem x_71 (X : JX T N q L s) (D : RDM T N q L s) (P : PFm T N L) (V : VWS T L q s) (hm : m < nMem L) (ho : o < nMem L) (Ym : TYr T L q s m) (Yo : TYr T L q s o) (hv : vwT (nmL L) (abT T L) (hmM L m) (hmM L o) = some v) : ∃ b : Bool, mjF (d + 4) 71 [.ref 71, .int (nI m), .int (nI o)] (mjW0 s) = some (some (.int (b2 b)), mjW0 s) ∧ (b = true ↔ samV T L m o v) := by
  have hq := X.2.2.2.2.1
  have hn := X.2.2.1
  have h16 := hn.1
  have D0 := D
  obtain ⟨d1, d2, d3, d4, d5⟩ := D
  have l6 : (psM L m).length ≤ 6 := (P m hm).2.2.2.2.1
  have l6o : (psM L o).length ≤ 6 := (P o ho).2.2.2.2.1
  have hmc := (d5 m hm).2.1
  have hoc := (d5 o ho).2.1
  have vv := (vw_v hn hmc hv).1
  have tm : vT L (tyM T L m) := ty_v hn (fun c hc => by cases hc; exact hmc)
  have to_ : vT L (tyM T L o) := ty_v hn (fun c hc => by cases hc; exact hoc)
  have ts := to_.sty hn vv
  have ym : s.1 (q + 17) m = tyI (tyM T L m) := Ym.1
  have yo : s.1 (q + 17) o = tyI (tyM T L o) := Yo.1
  have pre : mjF (d + 4) 71 [.ref 71, .int (nI m), .int (nI o)] (mjW0 s) = _ := e_71 (d := d + 3)
  unfold f_71 b_71_0 b_71_80 b_71_81 at pre
  rw [xg_71_2, X.2.2.2.2.2.1.1, xg_71_3, X.2.2.2.2.2.1.2, ymg_2 hq, wya_16 hq (by omega), (d5 m hm).1, xg_71_3, X.2.2.2.2.2.1.2, ymg_2 hq, wya_16 hq (by omega), (d5 o ho).1, yV hq, x_view hq (by omega) (by omega), bI_s, V _ (by omega) _ (by omega), if_pos hmc, hv, oI_s, xg_71_3, X.2.2.2.2.2.1.2, ymg_3 hq, wya_17 hq (by omega), ym, xg_71_2, X.2.2.2.2.2.1.1, xg_71_3, X.2.2.2.2.2.1.2, ymg_3 hq, wya_17 hq (by omega), yo, yV hq, x_sty hn hq X.2.2.2.2.2.2.1 to_ vv, bI_s] at pre
  by_cases g : tyM T L m = sty (nmL L) (tyM T L o) v
  · rw [if_pos (show tyI (tyM T L m) = tyI (sty (nmL L) (tyM T L o) v) from congrArg tyI g), xg_71_3, X.2.2.2.2.2.1.2, ymg_6 hq, wya_20 hq (by omega), (d5 m hm).2.2.2.2.2.2, xg_71_3, X.2.2.2.2.2.1.2, ymg_6 hq, wya_20 hq (by omega), (d5 o ho).2.2.2.2.2.2] at pre
    by_cases hl : (psM L m).length = (psM L o).length
    · rw [if_pos (show nI (mdM L m).2.2.2.1.length = nI (mdM L o).2.2.2.1.length from congrArg nI hl)] at pre
      obtain ⟨b, b1, b2'⟩ := lq_71j (d := d) X D0 P hm ho Ym Yo vv hl (psM L m).length 0 mjN (by omega) (by have := mjN_v; omega) (fun j hj => absurd hj (by omega))
      refine ⟨b, pre.trans b1, ?_⟩
      rw [b2']
      exact ⟨fun h => ⟨g, hl, h⟩, fun h => h.2.2⟩
    · rw [if_neg (show ¬ nI (mdM L m).2.2.2.1.length = nI (mdM L o).2.2.2.1.length from fun x => hl ((nI_eq (a := (psM L m).length) (b := (psM L o).length) (by omega) (by omega)).mp x)), show mjN = 99999999 + 1 from rfl, lq_71jz] at pre
      exact ⟨false, pre, fun h => (by cases h), fun h => absurd h.2.1 hl⟩
  · rw [if_neg (show ¬ tyI (tyM T L m) = tyI (sty (nmL L) (tyM T L o) v) from fun x => g ((tyI_eq (tm.lt hn) (ts.lt hn)).mp x)), show mjN = 99999999 + 1 from rfl, lq_71jz] at pre
    exact ⟨false, pre, fun h => (by cases h), fun h => absurd h.1 g⟩
theorem om_v (D : RDM T N q L s) (hc : c < L.length) {K : Int64} (h : omT T L c K = some o) : o < nMem L ∧ hmM L o = c ∧ nkM T L o = K := by
  unfold omT at h
  cases hf : fnd (fun i => decide (nkM T L (fmL L c + i) = K)) (mcL L c) with
  | none => rw [hf] at h; cases h
  | some i =>
    rw [hf] at h
    cases h
    obtain ⟨a, b, _⟩ := fnd_some.mp hf
    have := D.2.2.2.1 c hc
    exact ⟨by omega, hm_at hc a, by simpa using b⟩
end MJA19
