/-! ===== memberNamed, fits, hasThis ===== -/
section MJA25
variable {T : TT} {d N q c t n e k u v i m o w : Nat} {s s' : mjSt3} {L : List CD} {tr : Bool}
theorem L121_S (R : mjR) (n a : Nat) (b : Int64) (e f g : Int32) (hp : mjH) : L_121_6 R (n + 1) a b e f g hp = b_121_6 R (L_121_6 R n) a b e f g hp := rfl
theorem om_s (C : CB T N q L tr s) {K : Int64} (hc : c < L.length) (h : omT T L c K = some o) : o < nMem L ∧ hmM L o = c := by
  have := om_v C.2.1 hc h
  exact ⟨this.1, this.2.1⟩
theorem lq_121 (C : CB T N q L tr s) (ht : t ≤ N) (hT : (T t).1 = 3) (isM : Bool) : ∀ (r k n : Nat) (a : Option Nat), k + r = 16 → r < n → (∀ x, a = some x → x < L.length) → L_121_6 (mjF (d + 2)) n q (s.2.1 62 t) (b2 isM) (oI a) (nI k) (mjW0 s) = some (some (.int (oI ((anc (upT T L) r a).findSome? (fun a => match omT T L a (kyT T t) with
    | some m => if mSM L m = isM then some m else none
    | none => none)))), mjW0 s)
  | 0, k, n + 1, a, e, _, _ => by
    rw [L121_S]
    unfold b_121_6 b_121_66
    rw [if_pos (show (16 : Int32) ≤ nI k from nI_le (a := 16) (by omega) (by omega))]
    rfl
  | r + 1, k, n + 1, none, e, _, _ => by
    rw [L121_S]
    unfold b_121_6 b_121_66
    rw [if_neg (show ¬ (16 : Int32) ≤ nI k from nI_ge (b := 16) (by omega) (by decide)), oI_n, if_pos rfl]
    rfl
  | r + 1, k, n + 1, some x, e, hr, ha => by
    have hq := C.pq
    have hn := C.hn
    have h16 := hn.1
    have hx := ha x rfl
    have A : ABK T L q s := C.1.2.1
    have ih := lq_121 C ht hT isM r (k + 1) n (upT T L x) (by omega) (by omega) (fun y hy => up_lt hn hx hy)
    have x119 := x_119 (d := d + 1) hq C.2.1 C.2.2.2.1 C.1.1.2.1 h16 hx ht hT
    have ean : anc (upT T L) (r + 1) (some x) = x :: anc (upT T L) r (upT T L x) := rfl
    have e52 : b_121_52 (mjF (d + 2)) (L_121_6 (mjF (d + 2)) n) q (s.2.1 62 t) (b2 isM) (nI x) (nI k) (mjW0 s) = L_121_6 (mjF (d + 2)) n q (s.2.1 62 t) (b2 isM) (oI (upT T L x)) (nI (k + 1)) (mjW0 s) := by
      unfold b_121_52
      rw [yV hq, x_up hn hq A hx, bI_s, nI_1]
    rw [L121_S]
    unfold b_121_6
    rw [if_neg (show ¬ (16 : Int32) ≤ nI k from nI_ge (b := 16) (by omega) (by decide)), oI_s, if_neg (nI_m1 (by omega)), yV hq, x119, bI_s, ean, List.findSome?_cons, e52, ih]
    cases ho : omT T L x (kyT T t) with
    | none => rw [oI_n, if_pos rfl]
    | some o =>
      have ov := om_s C hx ho
      have d3 := C.2.1.2.2.1
      rw [oI_s, if_neg (nI_m1 (by omega)), yg_14 hq, ymg_4 hq, wya_18 hq (by omega), (C.2.1.2.2.2.2 o ov.1).2.2.2.2.2.1]
      by_cases g : mSM L o = isM
      · rw [if_pos (show b2 (mdM L o).2.2.1 = b2 isM from congrArg b2 g)]
        simp only [if_pos g]
        rfl
      · rw [if_neg (show ¬ b2 (mdM L o).2.2.1 = b2 isM from fun x => g (by
          show (mdM L o).2.2.1 = isM
          revert x
          cases (mdM L o).2.2.1 <;> cases isM <;> decide))]
        simp only [if_neg g]
/-- memberNamed -/
theorem x_121 (C : CB T N q L tr s) (hc : c < L.length) (ht : t ≤ N) (hT : (T t).1 = 3) (isM : Bool) : mjF (d + 3) 121 [.ref q, .int (nI c), .long (s.2.1 62 t), .int (b2 isM)] (mjW0 s) = some (some (.int (oI (memT T L c (kyT T t) isM))), mjW0 s) := by
  rw [e_121]
  unfold f_121 b_121_0
  exact lq_121 C ht hT isM 16 0 mjN (some c) (by omega) (by have := mjN_v; omega) (fun x hx => by cases hx; exact hc)
theorem mem_v (C : CB T N q L tr s) (hc : c < L.length) {K : Int64} {isM : Bool} (h : memT T L c K isM = some m) : m < nMem L ∧ mSM L m = isM ∧ ∃ v, vwT (nmL L) (abT T L) c (hmM L m) = some v := by
  obtain ⟨a, h1, h2⟩ := List.exists_of_findSome?_eq_some h
  cases ho : omT T L a K with
  | none => rw [ho] at h2; cases h2
  | some o =>
    rw [ho] at h2
    dsimp only at h2
    by_cases g : mSM L o = isM
    · rw [if_pos g] at h2
      cases h2
      have A := C.2.2.1
      have hh : a ∈ c :: anc (upT T L) 15 (upT T L c) := h1
      rcases List.mem_cons.mp hh with e | e
      · have ov := om_v C.2.1 (by rw [e]; exact hc) ho
        exact ⟨ov.1, g, by rw [ov.2.1, e]; exact ⟨_, vw_self A.1 hc⟩⟩
      · obtain ⟨al, w, hw⟩ := vw_anc A hc e
        have ov := om_v C.2.1 al ho
        exact ⟨ov.1, g, by rw [ov.2.1]; exact ⟨w, hw⟩⟩
    · rw [if_neg g] at h2; cases h2
/-- fits; TYPES 0 int, 1 null -/
def vTn (L : List CD) (t : Nat) : Prop := t = 1 ∨ vT L t
theorem vTn.lt (hn : HN T N L) (h : vTn L t) : t < 524290 := by
  rcases h with h | h
  · omega
  · exact h.lt hn
theorem x_123 (C : CB T N q L tr s) (ht : vTn L t) (hw : vT L w) : mjF (d + 3) 123 [.ref q, .int (tyI t), .int (tyI w)] (mjW0 s) = some (some (.int (b2 (fitT T L t w))), mjW0 s) := by
  have hq := C.pq
  have hn := C.hn
  have h16 := hn.1
  have wl := hw.lt hn
  rw [e_123]
  unfold f_123 b_123_0 b_123_25 b_123_67
  rcases ht with e | e
  · subst e
    rw [if_pos (show tyI 1 = -2 from rfl)]
    have e1 : tyI w = -1 ↔ w = 0 := tyI_eq (u := 0) wl (by decide)
    by_cases g : w = 0
    · rw [if_pos (e1.mpr g)]
      subst g
      rfl
    · rw [if_neg (fun x => g (e1.mp x))]
      have : fitT T L 1 w = true := by
        show decide (¬ w = 0) = true
        exact decide_eq_true g
      rw [this]
      rfl
  · have tl := e.lt hn
    rw [if_neg (show ¬ tyI t = -2 from fun x => by
      have := (tyI_eq (t := t) (u := 1) tl (by decide)).mp x
      rcases e with e | ⟨k, e, _⟩ <;> omega)]
    rcases e with e | ⟨k, e, vk⟩
    · subst e
      rw [if_pos (show tyI 0 < 0 by decide)]
      have e1 : tyI 0 = tyI w ↔ 0 = w := tyI_eq (by decide) wl
      have ef : fitT T L 0 w = decide (0 = w) := by
        match w with
        | 0 => rfl
        | 1 => rfl
        | w + 2 => rfl
      rw [ef]
      by_cases g : 0 = w
      · rw [if_pos (e1.mpr g), decide_eq_true g]; rfl
      · rw [if_neg (fun x => g (e1.mp x)), decide_eq_false g]; rfl
    · subst e
      rw [if_neg (show ¬ tyI (k + 2) < 0 from nI_pos (by have := vk.lt hn; omega))]
      rcases hw with g | ⟨x, g, vx⟩
      · subst g
        rw [if_neg (show ¬ (0 : Int32) ≤ tyI 0 by decide)]
        have : ¬ tyI (k + 2) = tyI 0 := fun x => by
          have := (tyI_eq tl (by decide)).mp x
          omega
        rw [if_neg this]
        rfl
      · subst g
        have kl := vk.lt hn
        have xl := vx.lt hn
        have kc := vk.cl hn
        have xc := vx.cl hn
        have V : VWS T L q s := C.1.2.2.2.1
        rw [if_pos (show (0 : Int32) ≤ tyI (x + 2) from nI_pos' (by omega)), show tyI (k + 2) = nI k from rfl, show tyI (x + 2) = nI x from rfl, x_105 (by omega), bI_s, x_105 (by omega), bI_s, yV hq, x_view hq (by omega) (by omega), bI_s, V _ (by omega) _ (by omega), if_pos kc]
        have ef : fitT T L (k + 2) (x + 2) = match vwT (nmL L) (abT T L) (cK k) (cK x) with
          | some v => decide (stand (nmL L) v k = x)
          | none => false := rfl
        rw [ef]
        cases hv : vwT (nmL L) (abT T L) (cK k) (cK x) with
        | none => rw [oI_n, if_pos (by decide)]; rfl
        | some v =>
          have vv := (vw_v hn kc hv).1
          have vl := vv.lt hn
          have sl := (vK.stand hn vv vk).lt hn
          rw [oI_s, if_neg (nI_pos (by omega)), yV hq, x_stand hq C.1.1.2.2.2.2.2.2.1 (by omega) (by omega) (by have := vv.cl hn; omega), bI_s]
          dsimp only
          by_cases g : stand (nmL L) v k = x
          · rw [if_pos (show nI (stand (nmL L) v k) = nI x by rw [g]), decide_eq_true g]; rfl
          · rw [if_neg (show ¬ nI (stand (nmL L) v k) = nI x from fun y => g ((nI_eq (by omega) (by omega)).mp y)), decide_eq_false g]; rfl
theorem L99_S (R : mjR) (n a : Nat) (b e f : Int32) (hp : mjH) : L_99_12 R (n + 1) a b e f hp = b_99_12 R (L_99_12 R n) a b e f hp := rfl
theorem lq_99 (C : CB T N q L tr s) (hm : m < nMem L) : ∀ (r i n : Nat), i + r = (psM L m).length → r < n → L_99_12 (mjF (d + 2)) n (q + 14) (nI m) (b2 (hasT (tyM T L m) || anyB (fun i => hasT (pyT T L m i)) i)) (nI i) (mjW0 s) = some (some (.int (b2 (hidM T L m))), mjW0 s)
  | 0, i, n + 1, e, _ => by
    have hq := C.pq
    have d3 := C.2.1.2.2.1
    have l6 : (psM L m).length ≤ 6 := (C.2.2.2.1 m hm).2.2.2.2.1
    rw [L99_S]
    unfold b_99_12
    rw [ymg_6 hq, wya_20 hq (by omega), (C.2.1.2.2.2.2 m hm).2.2.2.2.2.2, show (mdM L m).2.2.2.1.length = (psM L m).length from rfl, if_pos (nI_le (by omega) (by omega)), if_pos (b2_nar _), show i = (psM L m).length by omega]
    rfl
  | r + 1, i, n + 1, e, hr => by
    have hq := C.pq
    have hn := C.hn
    have d3 := C.2.1.2.2.1
    have l6 : (psM L m).length ≤ 6 := (C.2.2.2.1 m hm).2.2.2.2.1
    have ih := lq_99 C hm r (i + 1) n (by omega) (by omega)
    have ea : anyB (fun i => hasT (pyT T L m i)) (i + 1) = (anyB (fun i => hasT (pyT T L m i)) i || hasT (pyT T L m i)) := rfl
    rw [ea, ← Bool.or_assoc] at ih
    have vt := py_v (T := T) (i := i) hn (C.2.1.2.2.2.2 m hm).2.1
    rw [L99_S]
    unfold b_99_12 b_99_38 b_99_43
    rw [ymg_6 hq, wya_20 hq (by omega), (C.2.1.2.2.2.2 m hm).2.2.2.2.2.2, show (mdM L m).2.2.2.1.length = (psM L m).length from rfl, if_neg (nI_ge (by omega) (by omega)), b2_i, nI_1]
    cases hA : (hasT (tyM T L m) || anyB (fun i => hasT (pyT T L m i)) i) with
    | true =>
      rw [hA, Bool.true_or] at ih
      rw [if_pos rfl]
      exact ih
    | false =>
      rw [hA, Bool.false_or] at ih
      rw [if_neg (by decide), ymV hq, x_98 hq (by omega) (by omega), bI_s, (C.1.2.2.2.2.2.2.2.1 m hm).2 i (by omega), x_hasT (vt.lt hn), bI_s, b2_i]
      cases hB : hasT (pyT T L m i) with
      | true => rw [hB] at ih; rw [if_pos rfl]; exact ih
      | false => rw [hB] at ih; rw [if_neg (by decide)]; exact ih
/-- hasThis of a MEMBER -/
theorem x_99 (C : CB T N q L tr s) (hm : m < nMem L) : mjF (d + 3) 99 [.ref (q + 14), .int (nI m)] (mjW0 s) = some (some (.int (b2 (hidM T L m))), mjW0 s) := by
  have hq := C.pq
  have hn := C.hn
  have d3 := C.2.1.2.2.1
  have vt : vT L (tyM T L m) := ty_v hn (fun c hc => by cases hc; exact (C.2.1.2.2.2.2 m hm).2.1)
  have y : s.1 (q + 17) m = tyI (tyM T L m) := (C.1.2.2.2.2.2.2.2.1 m hm).1
  rw [e_99]
  unfold f_99 b_99_0
  rw [ymg_3 hq, wya_17 hq (by omega), y, x_hasT (vt.lt hn), bI_s]
  have := lq_99 (d := d) C hm (psM L m).length 0 mjN (by omega) (by have : (psM L m).length ≤ 6 := (C.2.2.2.1 m hm).2.2.2.2.1; have := mjN_v; omega)
  rw [show (hasT (tyM T L m) || anyB (fun i => hasT (pyT T L m i)) 0) = hasT (tyM T L m) by show (hasT (tyM T L m) || false) = _; rw [Bool.or_false]] at this
  exact this
end MJA25
