/-! ===== (e): judgeOvers ===== -/
section MJA20
variable {T : TT} {d N q c t n e k u v i m o : Nat} {s s' : mjSt3} {L : List CD} {h : Option Nat}
theorem chn_ex (hn : HN T N L) (hc : c < L.length) : ∀ (k a : Nat), upI (upT T L) k c = some a → ∃ v, chn (nmL L) (abT T L) c k = some v ∧ cK v = a
  | 0, a, h => by cases h; exact ⟨_, rfl, own_c hn hc⟩
  | k + 1, a, h => by
    rw [upI_S] at h
    cases e : upI (upT T L) k c with
    | none => rw [e] at h; cases h
    | some b =>
      rw [e] at h
      dsimp only at h
      obtain ⟨w, w1, w2⟩ := chn_ex hn hc k b e
      unfold upT at h
      cases e2 : abT T L b with
      | none => rw [e2] at h; cases h
      | some u =>
        rw [e2] at h
        cases h
        refine ⟨stand (nmL L) u w, ?_, stand_c hn (ab_v hn ?_ e2)⟩
        · show (match chn (nmL L) (abT T L) c k with
            | none => none
            | some v => match abT T L (cK v) with
              | none => none
              | some u => some (stand (nmL L) u v)) = _
          rw [w1]
          dsimp only
          rw [w2, e2]
        · rw [← w2]; exact (chn_v hn hc k w w1).cl hn
theorem vw_of {nm : Nat → Nat} {ab : Nat → Option Nat} : ∀ {n k v : Nat}, chn nm ab c k = some v → k < n → ∃ w, vwk nm ab c (cK v) n = some w
  | 0, k, v, _, h => by omega
  | n + 1, k, v, h, hk => by
    rw [vwk_S]
    cases e : vwk nm ab c (cK v) n with
    | some w => exact ⟨w, rfl⟩
    | none =>
      by_cases g : k = n
      · subst g
        dsimp only
        rw [h]
        dsimp only
        rw [if_pos rfl]
        exact ⟨v, rfl⟩
      · obtain ⟨w, hw⟩ := vw_of (n := n) h (by omega)
        rw [e] at hw
        cases hw
theorem upI_none {up : Nat → Option Nat} (h : upI up k c = none) : ∀ j, upI up (k + j) c = none := by
  intro j
  rw [upI_add, h]
theorem up_end (A : ACY T N L) (hc : c < L.length) (h : upI (upT T L) k c = some n) : k < 16 := by
  have e := upI_end A.1.1 (fun a b ha hb => up_lt A.1 ha hb) A.2 hc
  by_cases g : k < 16
  · exact g
  · have := upI_none e (k - L.length)
    have h16 := A.1.1
    rw [show L.length + (k - L.length) = k by omega, h] at this
    cases this
theorem anc_at {up : Nat → Option Nat} {a : Nat} : ∀ {f : Nat} {x : Option Nat}, a ∈ anc up f x → ∃ b j, x = some b ∧ upI up j b = some a ∧ j < f
  | 0, x, h => by cases h
  | f + 1, none, h => by cases h
  | f + 1, some b, h => by
    have h' : a ∈ b :: anc up f (up b) := h
    rcases List.mem_cons.mp h' with e | e
    · exact ⟨b, 0, rfl, by rw [e]; rfl, by omega⟩
    · obtain ⟨b', j, e1, e2, e3⟩ := anc_at e
      refine ⟨b, j + 1, rfl, ?_, by omega⟩
      show (match up b with
        | none => none
        | some b => upI up j b) = _
      rw [e1]
      exact e2
/-- of a CLASS above there is a view -/
theorem vw_anc (A : ACY T N L) (hc : c < L.length) {a f : Nat} (h : a ∈ anc (upT T L) f (upT T L c)) : a < L.length ∧ ∃ v, vwT (nmL L) (abT T L) c a = some v := by
  obtain ⟨b, j, e1, e2, e3⟩ := anc_at h
  have eu : upI (upT T L) (j + 1) c = some a := by
    show (match upT T L c with
      | none => none
      | some b => upI (upT T L) j b) = _
    rw [e1]
    exact e2
  have hj := up_end A hc eu
  obtain ⟨v, v1, v2⟩ := chn_ex A.1 hc _ _ eu
  have hl := (chn_v A.1 hc _ _ v1).cl A.1
  rw [v2] at hl
  obtain ⟨w, hw⟩ := vw_of v1 hj
  rw [v2] at hw
  exact ⟨hl, w, hw⟩
theorem L70_S (R : mjR) (n a : Nat) (b : Int32) (hp : mjH) : L_70_2 R (n + 1) a b hp = b_70_2 R (L_70_2 R n) a b hp := rfl
theorem L70b_S (R : mjR) (k2 : Nat → Int32 → mjH → mjU) (n a : Nat) (b e f g : Int32) (hp : mjH) : L_70_45 R k2 (n + 1) a b e f g hp = b_70_45 R k2 (L_70_45 R k2 n) a b e f g hp := rfl
def ovO (ov x : Option Nat) : Option Nat := match ov with
  | some y => some y
  | none => x
theorem lq_70b (P : PFm T N L) (k2 : Nat → Int32 → mjH → mjU) (hm : m < nMem L) : ∀ (r k n : Nat) (s : mjSt3) (a ov : Option Nat), k + r = 16 → r < n → JX T N q L s → ABK T L q s → RDM T N q L s → GB N s → (∀ x, a = some x → x < L.length) → (∀ x, ov = some x → x < nMem L) → ∃ s1, L_70_45 (mjF (d + 2)) k2 n 71 (nI m) (oI ov) (oI a) (nI k) (mjW0 s) = b_70_151 (mjF (d + 2)) k2 71 (nI m) (oI (ovO ov ((anc (upT T L) r a).findSome? (fun a => omT T L a (nkM T L m))))) (mjW0 s1) ∧ o58 s s1 ∧ GB N s1 ∧ (s1.1 58 7 = 0 ↔ s.1 58 7 = 0 ∧ ∀ b, b ∈ anc (upT T L) r a → ∀ o, omT T L b (nkM T L m) = some o → mSM L m = true ∧ mSM L o = true)
  | 0, k, n + 1, s, a, ov, e, _, X, A, D, g, ha, hv => by
    refine ⟨s, ?_, offG.rf, g, ⟨fun h => ⟨h, fun b hb => (by cases hb)⟩, fun h => h.1⟩⟩
    rw [L70b_S]
    unfold b_70_45
    rw [if_pos (show (16 : Int32) ≤ nI k from nI_le (a := 16) (by omega) (by omega))]
    show _ = b_70_151 (mjF (d + 2)) k2 71 (nI m) (oI (ovO ov none)) (mjW0 s)
    cases ov <;> rfl
  | r + 1, k, n + 1, s, none, ov, e, hr, X, A, D, g, ha, hv => by
    refine ⟨s, ?_, offG.rf, g, ⟨fun h => ⟨h, fun b hb => (by cases hb)⟩, fun h => h.1⟩⟩
    rw [L70b_S]
    unfold b_70_45
    rw [if_neg (show ¬ (16 : Int32) ≤ nI k from nI_ge (b := 16) (by omega) (by decide)), oI_n, if_pos rfl]
    show _ = b_70_151 (mjF (d + 2)) k2 71 (nI m) (oI (ovO ov none)) (mjW0 s)
    cases ov <;> rfl
  | r + 1, k, n + 1, s, some x, ov, e, hr, X, A, D, g, ha, hv => by
    have hq := X.2.2.2.2.1
    have hn := X.2.2.1
    have h16 := hn.1
    have hx := ha x rfl
    have D0 := D
    obtain ⟨d1, d2, d3, d4, d5⟩ := D
    obtain ⟨p1, p2, p3, p4, p5, p6⟩ := P m hm
    have pre : L_70_45 (mjF (d + 2)) k2 (n + 1) 71 (nI m) (oI ov) (oI (some x)) (nI k) (mjW0 s) = _ := L70b_S _ _ _ _ _ _ _ _ _
    unfold b_70_45 at pre
    have x119 := x_119 (d := d + 1) hq D0 P X.2.1 h16 hx (t := (mdM L m).2.1) (by omega) p3
    rw [if_neg (show ¬ (16 : Int32) ≤ nI k from nI_ge (b := 16) (by omega) (by decide)), oI_s, if_neg (nI_m1 (by omega)), xg_71_2, X.2.2.2.2.2.1.1, xg_71_3, X.2.2.2.2.2.1.2, ymg_1 hq, wya_15 hq (by omega), (d5 m hm).2.2.2.2.1, yV hq, x119, bI_s, show kyT T (mdM L m).2.1 = nkM T L m from rfl] at pre
    have ean : anc (upT T L) (r + 1) (some x) = x :: anc (upT T L) r (upT T L x) := rfl
    -- behind the question
    have fin : ∀ (z : mjSt3), o58 s z → GB N z → (z.1 58 7 = 0 ↔ s.1 58 7 = 0 ∧ ∀ o, omT T L x (nkM T L m) = some o → mSM L m = true ∧ mSM L o = true) → L_70_45 (mjF (d + 2)) k2 (n + 1) 71 (nI m) (oI ov) (oI (some x)) (nI k) (mjW0 s) = b_70_124 (mjF (d + 2)) k2 (L_70_45 (mjF (d + 2)) k2 n) 71 (nI m) (oI ov) (nI x) (nI k) (oI (omT T L x (nkM T L m))) (mjW0 z) → ∃ s1, L_70_45 (mjF (d + 2)) k2 (n + 1) 71 (nI m) (oI ov) (oI (some x)) (nI k) (mjW0 s) = b_70_151 (mjF (d + 2)) k2 71 (nI m) (oI (ovO ov ((anc (upT T L) (r + 1) (some x)).findSome? (fun a => omT T L a (nkM T L m))))) (mjW0 s1) ∧ o58 s s1 ∧ GB N s1 ∧ (s1.1 58 7 = 0 ↔ s.1 58 7 = 0 ∧ ∀ b, b ∈ anc (upT T L) (r + 1) (some x) → ∀ o, omT T L b (nkM T L m) = some o → mSM L m = true ∧ mSM L o = true) := by
      intro z oz gz iz pr
      have Xz := X.o58 oz
      have Az : ABK T L q z := by unfold ABK; rw [oz.r (by have : q = 2 ∨ q = 30 := hq; omega)]; exact A
      unfold b_70_124 b_70_135 at pr
      rw [xg_71_2, Xz.2.2.2.2.2.1.1, yV hq, x_up hn hq Az hx, bI_s, nI_1] at pr
      have pr' : L_70_45 (mjF (d + 2)) k2 (n + 1) 71 (nI m) (oI ov) (oI (some x)) (nI k) (mjW0 s) = L_70_45 (mjF (d + 2)) k2 n 71 (nI m) (oI (ovO ov (omT T L x (nkM T L m)))) (oI (upT T L x)) (nI (k + 1)) (mjW0 z) := by
        rw [pr]
        cases ov with
        | none =>
          rw [oI_n, if_pos rfl]
          rfl
        | some y =>
          have := hv y rfl
          rw [if_neg (show ¬ oI (some y) = -1 from nI_m1 (by omega)), xg_71_2, Xz.2.2.2.2.2.1.1, yV hq, x_up hn hq Az hx, bI_s]
          rfl
      obtain ⟨s1, a1, a2, a3, a4⟩ := lq_70b P k2 hm r (k + 1) n z (upT T L x) (ovO ov (omT T L x (nkM T L m))) (by omega) (by omega) Xz Az (D0.oJ hq (offG.mono oz (fun _ _ h => Or.inl h) (fun _ _ h => h.elim))) gz (fun y hy => up_lt hn hx hy) (fun y hy => by
        cases ov with
        | some w => cases hy; exact hv _ rfl
        | none => exact (om_v D0 hx hy).1)
      refine ⟨s1, ?_, oz.tr a2, a3, ?_⟩
      · rw [pr', a1, ean, List.findSome?_cons]
        have eo : ovO (ovO ov (omT T L x (nkM T L m))) ((anc (upT T L) r (upT T L x)).findSome? (fun a => omT T L a (nkM T L m))) = ovO ov (match omT T L x (nkM T L m) with
            | some b => some b
            | none => (anc (upT T L) r (upT T L x)).findSome? (fun a => omT T L a (nkM T L m))) := by
          cases ov with
          | some w => rfl
          | none =>
            cases omT T L x (nkM T L m) <;> rfl
        rw [eo]
        cases omT T L x (nkM T L m) <;> rfl
      · rw [a4, iz, ean]
        constructor
        · intro ⟨⟨a, b⟩, w⟩
          refine ⟨a, fun y hy => ?_⟩
          rcases List.mem_cons.mp hy with ey | ey
          · rw [ey]; exact b
          · exact w y ey
        · intro ⟨a, b⟩
          exact ⟨⟨a, b x (List.mem_cons_self ..)⟩, fun y hy => b y (List.mem_cons_of_mem _ hy)⟩
    cases ho : omT T L x (nkM T L m) with
    | none =>
      rw [ho, oI_n, if_pos rfl] at pre
      exact fin s offG.rf g ⟨fun h => ⟨h, fun o e => (by rw [ho] at e; cases e)⟩, fun h => h.1⟩ (by rw [ho]; exact pre)
    | some o =>
      have hol := om_v D0 hx ho
      rw [ho, oI_s, if_neg (nI_m1 (by omega)), xg_71_3, X.2.2.2.2.2.1.2, ymg_4 hq, wya_18 hq (by omega), (d5 m hm).2.2.2.2.2.1, b2_i] at pre
      have bad : L_70_45 (mjF (d + 2)) k2 (n + 1) 71 (nI m) (oI ov) (oI (some x)) (nI k) (mjW0 s) = b_70_107 (mjF (d + 2)) k2 (L_70_45 (mjF (d + 2)) k2 n) 71 (nI m) (oI ov) (nI x) (nI k) (nI o) (mjW0 s) → ¬ (mSM L m = true ∧ mSM L o = true) → ∃ s1, L_70_45 (mjF (d + 2)) k2 (n + 1) 71 (nI m) (oI ov) (oI (some x)) (nI k) (mjW0 s) = b_70_151 (mjF (d + 2)) k2 71 (nI m) (oI (ovO ov ((anc (upT T L) (r + 1) (some x)).findSome? (fun a => omT T L a (nkM T L m))))) (mjW0 s1) ∧ o58 s s1 ∧ GB N s1 ∧ (s1.1 58 7 = 0 ↔ s.1 58 7 = 0 ∧ ∀ b, b ∈ anc (upT T L) (r + 1) (some x) → ∀ o, omT T L b (nkM T L m) = some o → mSM L m = true ∧ mSM L o = true) := by
        intro pr no
        unfold b_70_107 at pr
        rw [xg_71_0, xg_71_1, xg_64_7, wa_69 (by omega), (d5 m hm).2.2.2.1, xV_58] at pr
        obtain ⟨z, b1, b2', b3⟩ := j_atG (d := d + 1) (k := 4) (t := (mdM L m).2.1) X.1 g (by omega) (by decide)
        rw [b1, bN_s] at pr
        exact fin z b3 (GB.ob b2') ⟨fun h => absurd h b2'.2, fun h => absurd (h.2 o ho) no⟩ (by rw [ho]; exact pr)
      cases hs : (mdM L m).2.2.1 with
      | false =>
        rw [hs, if_neg (by decide)] at pre
        exact bad pre (fun h => by have := h.1; unfold mSM at this; rw [hs] at this; cases this)
      | true =>
        rw [hs, if_pos rfl, xg_71_3, X.2.2.2.2.2.1.2, ymg_4 hq, wya_18 hq (by omega), (d5 o hol.1).2.2.2.2.2.1, b2_i] at pre
        cases hs2 : (mdM L o).2.2.1 with
        | false =>
          rw [hs2, if_neg (by decide)] at pre
          exact bad pre (fun h => by have := h.2; unfold mSM at this; rw [hs2] at this; cases this)
        | true =>
          rw [hs2, if_pos rfl] at pre
          exact fin s offG.rf g ⟨fun h => ⟨h, fun o' e => (by rw [ho] at e; cases e; exact ⟨hs, hs2⟩)⟩, fun h => h.1⟩ (by rw [ho]; exact pre)
theorem lq_70 (P : PFm T N L) (Ac : ACY T N L) : ∀ (r m n : Nat) (s : mjSt3), m + r = nMem L → r < n → JX T N q L s → ABK T L q s → RDM T N q L s → VWS T L q s → (∀ m, m < nMem L → TYr T L q s m) → GB N s → ∃ s', L_70_2 (mjF (d + 4)) n 71 (nI m) (mjW0 s) = some (none, mjW0 s') ∧ GB N s' ∧ (s'.1 58 7 = 0 ↔ s.1 58 7 = 0 ∧ ∀ j, m ≤ j → j < nMem L → OKe T L j) ∧ o58 s s'
  | 0, m, n + 1, s, e, _, X, A, D, V, Y, g => by
    have hq := X.2.2.2.2.1
    refine ⟨s, ?_, g, ⟨fun h => ⟨h, fun a h1 h2 => absurd h1 (by omega)⟩, fun h => h.1⟩, offG.rf⟩
    rw [L70_S]
    unfold b_70_2
    rw [xg_71_3, X.2.2.2.2.2.1.2, ymg_0 hq, D.2.1, if_pos (nI_le (by omega) (by have := D.2.2.1; omega))]
  | r + 1, m, n + 1, s, e, hr, X, A, D, V, Y, g => by
    have hq := X.2.2.2.2.1
    have hq' : q = 2 ∨ q = 30 := hq
    have hn := X.2.2.1
    have h16 := hn.1
    have hm : m < nMem L := by omega
    have D0 := D
    obtain ⟨d1, d2, d3, d4, d5⟩ := D
    obtain ⟨p1, p2, p3, p4, p5, p6⟩ := P m hm
    have hmc := (d5 m hm).2.1
    have pre : L_70_2 (mjF (d + 4)) (n + 1) 71 (nI m) (mjW0 s) = _ := L70_S _ _ _ _ _
    unfold b_70_2 at pre
    rw [xg_71_3, X.2.2.2.2.2.1.2, ymg_0 hq, d2, if_neg (nI_ge (by omega) (by omega)), xg_71_0, xV_58] at pre
    by_cases h7 : s.1 58 7 = 0
    · obtain ⟨cu, hcu, f⟩ := g.f h7
      rw [j_fine f, bI_s, if_neg (by decide), xg_71_2, X.2.2.2.2.2.1.1, xg_71_3, X.2.2.2.2.2.1.2, ymg_2 hq, wya_16 hq (by omega), (d5 m hm).1, yV hq, x_up (d := d + 2) hn hq A hmc, bI_s] at pre
      obtain ⟨z, a1, a2, a3, a4⟩ := lq_70b (d := d + 2) P (L_70_2 (mjF (d + 4)) n) hm 16 0 mjN s (upT T L (hmM L m)) none (by omega) (by have := mjN_v; omega) X A D0 g (fun x hx => up_lt hn hmc hx) (fun x hx => by cases hx)
      rw [show (-1 : Int32) = oI none from rfl, show (0 : Int32) = nI 0 from rfl, a1] at pre
      have enear : ovO none ((anc (upT T L) 16 (upT T L (hmM L m))).findSome? (fun a => omT T L a (nkM T L m))) = nearM T L m := rfl
      rw [enear] at pre
      unfold b_70_151 b_70_183 at pre
      have oj := offG.mono a2 (A' := fun h j => c58 h j ∨ h = q + 4 ∨ h = q + 5 ∨ h = q + 8 ∨ h = q + 11 ∨ h = q + 12 ∨ h = q + 17 ∨ h = q + 19 ∨ h = q + 21) (B' := fun h _ => h = 74 ∨ h = q + 13) (fun _ _ h => Or.inl h) (fun _ _ h => h.elim)
      have Xz := X.o58 a2
      have nxt : ∀ y, o58 s y → GB N y → (y.1 58 7 = 0 ↔ OKe T L m) → L_70_2 (mjF (d + 4)) (n + 1) 71 (nI m) (mjW0 s) = L_70_2 (mjF (d + 4)) n 71 (nI (m + 1)) (mjW0 y) → ∃ s', L_70_2 (mjF (d + 4)) (n + 1) 71 (nI m) (mjW0 s) = some (none, mjW0 s') ∧ GB N s' ∧ (s'.1 58 7 = 0 ↔ s.1 58 7 = 0 ∧ ∀ j, m ≤ j → j < nMem L → OKe T L j) ∧ o58 s s' := by
        intro y oy gy iy pr
        have oyj : oJ q s y := offG.mono oy (fun _ _ h => Or.inl h) (fun _ _ h => h.elim)
        obtain ⟨s', b1, b2', b3, b4⟩ := lq_70 P Ac r (m + 1) n y (by omega) (by omega) (X.o58 oy) (by unfold ABK; rw [oy.r (by omega)]; exact A) (D0.oJ hq oyj) (by unfold VWS; rw [oy.r (by omega)]; exact V) (fun m hm => by unfold TYr; rw [oy.r (by omega), oy.r (by omega)]; exact Y m hm) gy
        refine ⟨s', pr.trans b1, b2', ?_, oy.tr b4⟩
        rw [b3, iy]
        constructor
        · intro ⟨x, w⟩
          refine ⟨h7, fun j h1 h2 => ?_⟩
          by_cases ej : j = m
          · rw [ej]; exact x
          · exact w j (by omega) h2
        · intro ⟨x, w⟩
          exact ⟨w m (by omega) hm, fun j h1 h2 => w j (by omega) h2⟩
      cases ho : nearM T L m with
      | none =>
        rw [ho, oI_n, if_pos rfl, nI_1] at pre
        exact nxt z a2 a3 (by
          rw [a4]
          exact ⟨fun h => ⟨h.2, fun o e => (by rw [ho] at e; cases e)⟩, fun h => ⟨h7, h.1⟩⟩) pre
      | some o =>
        obtain ⟨a, ha, hao⟩ : ∃ a, a ∈ ancM T L m ∧ omT T L a (nkM T L m) = some o := by
          have := List.exists_of_findSome?_eq_some ho
          obtain ⟨a, h1, h2⟩ := this
          exact ⟨a, h1, h2⟩
        obtain ⟨hal, w, hw⟩ := vw_anc Ac hmc ha
        have hol := om_v D0 hal hao
        rw [← hol.2.1] at hw
        obtain ⟨bb, c1, c2⟩ := x_71 (d := d) Xz (D0.oJ hq oj) P (by unfold VWS; rw [a2.r (by omega)]; exact V) hm hol.1 (by unfold TYr; rw [a2.r (by omega), a2.r (by omega)]; exact Y m hm) (by unfold TYr; rw [a2.r (by omega), a2.r (by omega)]; exact Y o hol.1) hw
        have sm : bb = true ↔ ∀ o, nearM T L m = some o → samM T L m o := by
          rw [c2]
          constructor
          · intro h o' e v' hv'
            rw [ho] at e
            cases e
            rw [hw] at hv'
            cases hv'
            exact h
          · intro h
            exact h o ho w hw
        rw [ho, oI_s, if_neg (nI_m1 (by have := D0.2.2.1; omega)), xV_71, c1, bI_s, b2_i, nI_1, xg_71_0, xg_71_1, xg_64_7, wa_69 (by omega), show z.1 69 m = nI (mdM L m).2.1 by rw [a2.r (by decide)]; exact (d5 m hm).2.2.2.1, xV_58] at pre
        cases bb with
        | true =>
          rw [if_pos rfl] at pre
          exact nxt z a2 a3 (by
            rw [a4]
            exact ⟨fun h => ⟨h.2, sm.mp rfl⟩, fun h => ⟨h7, h.1⟩⟩) pre
        | false =>
          rw [if_neg (by decide)] at pre
          obtain ⟨y, b1, b2', b3⟩ := j_atG (d := d + 3) (k := 9) (t := (mdM L m).2.1) Xz.1 a3 (by omega) (by decide)
          rw [b1, bN_s] at pre
          exact nxt y (a2.tr b3) (GB.ob b2') ⟨fun h => absurd h b2'.2, fun h => absurd (sm.mpr h.2) (by decide)⟩ pre
    · rw [j_fineB (g.b h7), bI_s, if_pos rfl] at pre
      exact ⟨s, pre, g, ⟨fun h => absurd h h7, fun h => absurd h.1 h7⟩, offG.rf⟩
end MJA20
