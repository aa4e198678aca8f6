/-! ===== how many FIELDS ===== -/
def sumN (f : Nat → Nat) : Nat → Nat
  | 0 => 0
  | n + 1 => sumN f n + f n
theorem sumN_le {f : Nat → Nat} {b : Nat} : ∀ {n : Nat}, (∀ i, i < n → f i ≤ b) → sumN f n ≤ b * n
  | 0, _ => by show 0 ≤ b * 0; omega
  | n + 1, h => by
    have a := sumN_le (n := n) (fun i hi => h i (by omega))
    have c := h n (by omega)
    show sumN f n + f n ≤ b * (n + 1)
    rw [Nat.mul_succ]
    omega
theorem sumN_cg {f g : Nat → Nat} : ∀ {n : Nat}, (∀ i, i < n → f i = g i) → sumN f n = sumN g n
  | 0, _ => rfl
  | n + 1, h => by
    show sumN f n + f n = sumN g n + g n
    rw [sumN_cg (n := n) (fun i hi => h i (by omega)), h n (by omega)]
/-- one more place -/
theorem sumN_add {f g : Nat → Nat} {c x : Nat} : ∀ {n : Nat}, c < n → f c = g c + x → (∀ i, i < n → ¬ i = c → f i = g i) → sumN f n = sumN g n + x
  | 0, h, _, _ => by omega
  | n + 1, h, e, w => by
    show sumN f n + f n = sumN g n + g n + x
    by_cases g' : c = n
    · subst g'
      rw [sumN_cg (fun i hi => w i (by omega) (by omega)), e]
      omega
    · rw [sumN_add (n := n) (by omega) e (fun i hi ne => w i (by omega) ne), w n (by omega) (by omega)]
      omega
/-- FIELDS told in a CLASS -/
def oflL (L : List CD) (a : Nat) : Nat := match L[a]? with
  | some D => cntB false D.2
  | none => 0
/-- FIELDS of a CLASS, those from above too -/
def fldT (T : TT) (L : List CD) (c : Nat) : Nat := sumN (fun a => if (vwT (nmL L) (abT T L) c a).isSome = true then oflL L a else 0) L.length
section MJA13
variable {T : TT} {d N q c t n e k u v : Nat} {s s' : mjSt3} {L : List CD}
/-- the class's views -/
def VWS (T : TT) (L : List CD) (q : Nat) (s : mjSt3) : Prop := ∀ b, b < 16 → ∀ a, a < 16 → s.1 (q + 12) (16 * b + a) = if b < L.length then oI (vwT (nmL L) (abT T L) b a) else -1
theorem vw_v (A : HN T N L) {a w : Nat} (hc : c < L.length) (h : vwT (nmL L) (abT T L) c a = some w) : vK L w ∧ cK w = a := by
  obtain ⟨j, _, j2, j3⟩ := vwk_at h
  exact ⟨chn_v A hc j w j2, j3⟩
theorem vw_nn (A : HN T N L) (V : VWS T L q s) {a : Nat} (hc : c < L.length) (ha : a < L.length) : (0 : Int32) ≤ s.1 (q + 12) (16 * c + a) ↔ (vwT (nmL L) (abT T L) c a).isSome = true := by
  have h16 := A.1
  rw [V c (by omega) a (by omega), if_pos hc]
  cases h : vwT (nmL L) (abT T L) c a with
  | none => decide
  | some w =>
    have := (vw_v A hc h).1.lt A
    exact ⟨fun _ => rfl, fun _ => nI_pos' (by omega)⟩
def fsum (T : TT) (L : List CD) (c k : Nat) : Nat := sumN (fun a => if (vwT (nmL L) (abT T L) c a).isSome = true then oflL L a else 0) k
theorem fsum_le (h24 : ∀ a, oflL L a ≤ 24) (h : k ≤ 16) : fsum T L c k ≤ 384 := by
  have := sumN_le (f := fun a => if (vwT (nmL L) (abT T L) c a).isSome = true then oflL L a else 0) (b := 24) (n := k) (fun i _ => by
    try dsimp only
    by_cases g : (vwT (nmL L) (abT T L) c i).isSome = true
    · rw [if_pos g]; exact h24 i
    · rw [if_neg g]; omega)
  unfold fsum
  omega
theorem L113_S (R : mjR) (n a : Nat) (b : Int32) (hp : mjH) : L_113_2 R (n + 1) a b hp = b_113_2 R (L_113_2 R n) a b hp := rfl
theorem L113b_S (R : mjR) (k2 : Nat → Int32 → mjH → mjU) (n a : Nat) (b e : Int32) (hp : mjH) : L_113_12 R k2 (n + 1) a b e hp = b_113_12 R k2 (L_113_12 R k2 n) a b e hp := rfl
theorem L113c_S (R : mjR) (n a : Nat) (b : Int32) (hp : mjH) : L_113_62 R (n + 1) a b hp = b_113_62 R (L_113_62 R n) a b hp := rfl
theorem lq_113b (A : HN T N L) (hq : isP q) (k2 : Nat → Int32 → mjH → mjU) (hc : c < L.length) (h24 : ∀ a, oflL L a ≤ 24) : ∀ (r a m : Nat) (s : mjSt3), a + r = L.length → r < m → s.1 q 0 = nI L.length → VWS T L q s → (∀ a, a < L.length → s.1 (q + 7) a = nI (oflL L a)) → s.1 (q + 8) c = nI (fsum T L c a) → ∃ s', L_113_12 (mjF (d + 1)) k2 m q (nI c) (nI a) (mjW0 s) = k2 q (nI (c + 1)) (mjW0 s') ∧ oRow (q + 8) s s' ∧ (∀ j, ¬ j = c → s'.1 (q + 8) j = s.1 (q + 8) j) ∧ s'.1 (q + 8) c = nI (fldT T L c) ∧ s'.1 58 = s.1 58
  | 0, a, m + 1, s, e, _, h0, V, O, w => by
    have h16 := A.1
    refine ⟨s, ?_, offG.rf, fun _ _ => rfl, ?_, rfl⟩
    · rw [L113b_S]
      unfold b_113_12
      rw [yg_0 hq, h0, if_pos (nI_le (by omega) (by omega)), nI_1]
    · rw [w, show a = L.length by omega]; rfl
  | r + 1, a, m + 1, s, e, hr, h0, V, O, w => by
    have h16 := A.1
    have hq' : q = 2 ∨ q = 30 := hq
    have ha : a < L.length := by omega
    obtain ⟨z, hz⟩ : ∃ z, z = uI s (q + 8) (upd (s.1 (q + 8)) c (nI (fsum T L c (a + 1)))) := ⟨_, rfl⟩
    have oz : oRow (q + 8) s z := by rw [hz]; exact oRow.w
    have z58 : z.1 58 = s.1 58 := by rw [hz]; exact uI_ne _ _ _ _ (by omega)
    obtain ⟨s', a1, a2, a3, a4, a5⟩ := lq_113b A hq k2 hc h24 r (a + 1) m z (by omega) (by omega) (by rw [oz.r (by omega) (by omega)]; exact h0) (by unfold VWS; rw [oz.r (by omega) (by omega)]; exact V) (by rw [oz.r (by omega) (by omega)]; exact O) (by rw [hz, uI_same, upd_g, if_pos rfl])
    refine ⟨s', ?_, oz.tr a2, fun j hj => by rw [a3 j hj, hz, uI_same, upd_g, if_neg hj], a4, a5.trans z58⟩
    rw [← a1, L113b_S]
    unfold b_113_12 b_113_46
    have es : fsum T L c (a + 1) = fsum T L c a + (if (vwT (nmL L) (abT T L) c a).isSome = true then oflL L a else 0) := rfl
    have vn := vw_nn A V hc ha
    rw [yg_0 hq, h0, if_neg (nI_ge (by omega) (by omega)), yg_8 hq, wya_8 hq (by omega), w, yV hq, x_view hq (by omega) (by omega), bI_s]
    by_cases g : (vwT (nmL L) (abT T L) c a).isSome = true
    · rw [if_pos (vn.mpr g), yg_7 hq, wya_7 hq (by omega), O a ha, wys_8 hq (by omega), nI_add, nI_1, hz, es, if_pos g]
    · rw [if_neg (fun x => g (vn.mp x)), wys_8 hq (by omega), show nI (fsum T L c a) + (0 : Int32) = nI (fsum T L c a + 0) from nI_add _ 0, nI_1, hz, es, if_neg g]
/-- the rows that fillFields reads of the MEMBERS -/
def FMr (q : Nat) (s : mjSt3) (M : Nat) (hm : Nat → Nat) (mS : Nat → Bool) : Prop := s.1 (q + 14) 0 = nI M ∧ M ≤ 384 ∧ ∀ m, m < M → s.1 (q + 16) m = nI (hm m) ∧ hm m < 16 ∧ s.1 (q + 18) m = b2 (mS m)
theorem lq_113c (hq : isP q) {M : Nat} {hm : Nat → Nat} {mS : Nat → Bool} {fl of nu : Nat → Nat} (h7 : ∀ c, c < 16 → of c ≤ fl c ∧ fl c ≤ 384) : ∀ (r i m : Nat) (s : mjSt3), i + r = M → r < m → FMr q s M hm mS → (∀ c, c < 16 → s.1 (q + 8) c = nI (fl c) ∧ s.1 (q + 7) c = nI (of c)) → (∀ j, j < i → s.1 (q + 19) j = nI (if mS j = true then nu j else nu j + (fl (hm j) - of (hm j)))) → (∀ j, i ≤ j → j < M → s.1 (q + 19) j = nI (nu j)) → ∃ s', L_113_62 (mjF (d + 1)) m q (nI i) (mjW0 s) = some (none, mjW0 s') ∧ oRow (q + 19) s s' ∧ (∀ j, j < M → s'.1 (q + 19) j = nI (if mS j = true then nu j else nu j + (fl (hm j) - of (hm j)))) ∧ s'.1 58 = s.1 58
  | 0, i, m + 1, s, e, _, F, G, w, w' => by
    refine ⟨s, ?_, offG.rf, fun j hj => w j (by omega), rfl⟩
    rw [L113c_S]
    unfold b_113_62
    rw [yg_14 hq, ymg_0 hq, F.1, if_pos (nI_le (by omega) (by have := F.2.1; omega))]
  | r + 1, i, m + 1, s, e, hr, F, G, w, w' => by
    have hq' : q = 2 ∨ q = 30 := hq
    obtain ⟨f1, f2, f3⟩ := F
    obtain ⟨k1, k2, k3⟩ := f3 i (by omega)
    obtain ⟨z, hz⟩ : ∃ z, z = uI s (q + 19) (upd (s.1 (q + 19)) i (nI (if mS i = true then nu i else nu i + (fl (hm i) - of (hm i))))) := ⟨_, rfl⟩
    have oz : oRow (q + 19) s z := by rw [hz]; exact oRow.w
    have z58 : z.1 58 = s.1 58 := by rw [hz]; exact uI_ne _ _ _ _ (by omega)
    obtain ⟨s', a1, a2, a3, a4⟩ := lq_113c hq h7 r (i + 1) m z (by omega) (by omega) ⟨by rw [oz.r (by omega) (by omega)]; exact f1, f2, fun m hm => by rw [oz.r (by omega) (by omega), oz.r (by omega) (by omega)]; exact f3 m hm⟩ (fun c hc => by rw [oz.r (by omega) (by omega), oz.r (by omega) (by omega)]; exact G c hc) (fun j hj => by
      rw [hz, uI_same, upd_g]
      by_cases ej : j = i
      · rw [if_pos ej, ej]
      · rw [if_neg ej]; exact w j (by omega)) (fun j h1 h2 => by rw [hz, uI_same, upd_g, if_neg (by omega)]; exact w' j (by omega) h2)
    refine ⟨s', ?_, oz.tr a2, a3, a4.trans z58⟩
    rw [← a1, L113c_S]
    unfold b_113_62 b_113_122
    rw [yg_14 hq, ymg_0 hq, f1, if_neg (nI_ge (by omega) (by omega)), yg_14 hq, ymg_2 hq, wya_16 hq (by omega), k1, yg_14 hq, ymg_5 hq, wya_19 hq (by omega), w' i (by omega) (by omega), yg_14 hq, ymg_4 hq, wya_18 hq (by omega), k3, b2_i]
    cases hs : mS i with
    | true =>
      rw [if_pos rfl, wys_19 hq (by omega), show nI (nu i) + (0 : Int32) = nI (nu i + 0) from nI_add _ 0, nI_1, hz, hs, if_pos rfl]
      rfl
    | false =>
      rw [if_neg (by decide), yg_8 hq, wya_8 hq k2, (G _ k2).1, yg_7 hq, wya_7 hq k2, (G _ k2).2, pk_sub (h7 _ k2).1, wys_19 hq (by omega), nI_add, nI_1, hz, hs, if_neg (by decide)]
theorem lq_113 (A : HN T N L) (hq : isP q) (h24 : ∀ a, oflL L a ≤ 24) {M : Nat} {hm : Nat → Nat} {mS : Nat → Bool} {nu : Nat → Nat} (hof : ∀ c, oflL L c ≤ fldT T L c) : ∀ (r c m : Nat) (s : mjSt3), c + r = L.length → r < m → s.1 q 0 = nI L.length → VWS T L q s → FMr q s M hm mS → (∀ m, m < M → hm m < L.length) → (∀ a, a < 16 → s.1 (q + 7) a = nI (oflL L a)) → (∀ j, j < c → s.1 (q + 8) j = nI (fldT T L j)) → (∀ j, c ≤ j → j < 16 → s.1 (q + 8) j = 0) → (∀ j, j < M → s.1 (q + 19) j = nI (nu j)) → ∃ s', L_113_2 (mjF (d + 1)) m q (nI c) (mjW0 s) = some (none, mjW0 s') ∧ oJ q s s' ∧ (∀ h, ¬ h = q + 8 → ¬ h = q + 19 → s'.1 h = s.1 h) ∧ s'.2 = s.2 ∧ (∀ j, j < L.length → s'.1 (q + 8) j = nI (fldT T L j)) ∧ (∀ j, j < M → s'.1 (q + 19) j = nI (if mS j = true then nu j else nu j + (fldT T L (hm j) - oflL L (hm j))))
  | 0, c, m + 1, s, e, _, h0, V, F, hl, O, w, w', wn => by
    have h16 := A.1
    have hq' : q = 2 ∨ q = 30 := hq
    have out : ∀ c, L.length ≤ c → oflL L c = 0 := fun c hc => by unfold oflL; rw [List.getElem?_eq_none hc]
    obtain ⟨s', a1, a2, a3, a4⟩ := lq_113c (d := d) (q := q) (M := M) (hm := hm) (mS := mS) (fl := fun c => if c < L.length then fldT T L c else 0) (of := oflL L) (nu := nu) hq (fun c hc => by
      try dsimp only
      by_cases g : c < L.length
      · rw [if_pos g]; exact ⟨hof c, fsum_le h24 h16⟩
      · rw [if_neg g, out c (by omega)]; omega) M 0 mjN s (by omega) (by have := F.2.1; have := mjN_v; omega) F (fun c hc => by
      refine ⟨?_, O c hc⟩
      try dsimp only
      by_cases g : c < L.length
      · rw [if_pos g]; exact w c (by omega)
      · rw [if_neg g]; exact w' c (by omega) hc) (fun j hj => absurd hj (by omega)) (fun j _ hj => wn j hj)
    refine ⟨s', ?_, a2.J (by omega), fun h h1 h2 => ?_, a2.l, fun j hj => ?_, fun j hj => ?_⟩
    · rw [L113_S]
      unfold b_113_2
      rw [yg_0 hq, h0, if_pos (nI_le (by omega) (by omega))]
      exact a1
    · by_cases g : h = 58
      · rw [g]; exact a4
      · exact a2.r g h2
    · rw [a2.r (by omega) (by omega)]; exact w j (by omega)
    · rw [a3 j hj]
      try dsimp only
      rw [if_pos (hl j hj)]
  | r + 1, c, m + 1, s, e, hr, h0, V, F, hl, O, w, w', wn => by
    have h16 := A.1
    have hq' : q = 2 ∨ q = 30 := hq
    have hc : c < L.length := by omega
    obtain ⟨z, a1, a2, a3, a4, a5⟩ := lq_113b (d := d) A hq (L_113_2 (mjF (d + 1)) m) hc h24 L.length 0 mjN s (by omega) (by have := mjN_v; omega) h0 V (fun a ha => O a (by omega)) (by rw [w' c (by omega) (by omega)]; rfl)
    obtain ⟨f1, f2, f3⟩ := F
    obtain ⟨s', b1, b2', b3, b4, b5, b6⟩ := lq_113 A hq h24 hof r (c + 1) m z (by omega) (by omega) (by rw [a2.r (by omega) (by omega)]; exact h0) (by unfold VWS; rw [a2.r (by omega) (by omega)]; exact V) ⟨by rw [a2.r (by omega) (by omega)]; exact f1, f2, fun m hm => by rw [a2.r (by omega) (by omega), a2.r (by omega) (by omega)]; exact f3 m hm⟩ hl (by rw [a2.r (by omega) (by omega)]; exact O) (fun j hj => by
      by_cases ej : j = c
      · rw [ej]; exact a4
      · rw [a3 j ej]; exact w j (by omega)) (fun j h1 h2 => by rw [a3 j (by omega)]; exact w' j (by omega) h2) (by rw [a2.r (by omega) (by omega)]; exact wn)
    refine ⟨s', ?_, (a2.J (by omega)).tr b2', fun h h1 h2 => ?_, b4.trans a2.l, b5, b6⟩
    · rw [L113_S]
      unfold b_113_2
      rw [yg_0 hq, h0, if_neg (nI_ge (by omega) (by omega))]
      exact a1.trans b1
    · rw [b3 h h1 h2]
      by_cases g : h = 58
      · rw [g]; exact a5
      · exact a2.r g h1
end MJA13
