/-! ===== kindHere, typeHere ===== -/
/-- what the judge stands on -/
def JX (T : TT) (N q : Nat) (L : List CD) (s : mjSt3) : Prop := TH T N s ∧ KY T N s ∧ HN T N L ∧ CKs L s ∧ isP q ∧ (s.2.2 71 2 = q ∧ s.2.2 71 3 = q + 14) ∧ pnm q s (nmL L) ∧ s.1 q 0 = nI L.length
/-- a KIND that is judged -/
def vK (L : List CD) (k : Nat) : Prop := ∃ (e : Nat) (f : Nat → Nat), e < L.length ∧ k = mkK e (nmL L e) f ∧ ∀ i, i < nmL L e → f i ≤ 6
section MJA6
variable {T : TT} {d N q c t n e k : Nat} {s s' : mjSt3} {L : List CD} {h : Option Nat} {iN : Nat → Nat} {ip : Nat → Nat → Nat × Nat} {kn : Nat → Nat → Nat → Bool}
theorem JX.o58 (X : JX T N q L s) (o : o58 s s') : JX T N q L s' := by
  obtain ⟨a, b, c, e, f, g, i, j⟩ := X
  have hq : q = 2 ∨ q = 30 := f
  refine ⟨a.o58 o, b.o58 o, c, ?_, f, ?_, ?_, ?_⟩
  · unfold CKs; rw [o.l]; exact e
  · rw [o.l]; exact g
  · unfold pnm; rw [o.r (by omega)]; exact i
  · rw [o.r (by omega)]; exact j
theorem KNW.o58 (k : KNW q s kn) (hq : isP q) (o : o58 s s') : KNW q s' kn := by
  have hq : q = 2 ∨ q = 30 := hq
  unfold KNW; rw [o.r (by omega)]; exact k
theorem INP.o58 (k : INP q s iN ip) (hq : isP q) (o : o58 s s') : INP q s' iN ip := by
  have hq : q = 2 ∨ q = 30 := hq
  unfold INP; rw [o.r (by omega), o.r (by omega)]; exact k
theorem vK.n5 (hn : HN T N L) (he : e < L.length) : 1 ≤ nmL L e ∧ nmL L e ≤ 5 := ⟨(hn.2 e he).2.2.1, (hn.2 e he).2.2.2.1⟩
theorem vK.cl (hn : HN T N L) (v : vK L k) : cK k < L.length := by
  obtain ⟨e, f, h1, h2, h3⟩ := v
  rw [h2, mkK_c (vK.n5 hn h1).2 (fun i hi => by have := h3 i hi; omega)]
  exact h1
theorem vK.lt (hn : HN T N L) (v : vK L k) : k < 524288 := by
  obtain ⟨e, f, h1, h2, h3⟩ := v
  rw [h2]
  exact mkK_lt (vK.n5 hn h1).2 (fun i hi => by have := h3 i hi; omega) (by have := hn.1; omega)
theorem vK.ow (hn : HN T N L) (v : vK L k) : vO k := by
  obtain ⟨e, f, h1, h2, h3⟩ := v
  intro i hi
  have h8 : ∀ i, i < nmL L e → f i < 8 := fun i hi => by have := h3 i hi; omega
  rw [h2]
  by_cases g : i < nmL L e
  · rw [mkK_o (vK.n5 hn h1).2 h8 g]; exact h3 i g
  · rw [mkK_z (vK.n5 hn h1).2 h8 (by omega) hi]; omega
theorem kd_v (hn : HN T N L) (hh : ∀ c, h = some c → c < L.length) {beh : Bool} (hk : kdT T L h beh t = some k) : ∃ e, clsK T L (kyT T t) = some e ∧ e < L.length ∧ cntO T 6 (t + 2) = nmL L e ∧ k = mkK e (nmL L e) (fun i => (owT T L h beh (t + 2 + 2 * i)).getD 0) ∧ (∀ i, i < nmL L e → ¬ owT T L h beh (t + 2 + 2 * i) = none) ∧ vK L k := by
  unfold kdT at hk
  cases hc : clsK T L (kyT T t) with
  | none => rw [hc] at hk; cases hk
  | some e =>
    rw [hc] at hk
    dsimp only at hk
    by_cases g : cntO T 6 (t + 2) = (hC L e).2.1
    · rw [if_pos g] at hk
      cases hf : fnd (fun i => decide (owT T L h beh (t + 2 + 2 * i) = none)) (hC L e).2.1 with
      | some i => rw [hf] at hk; cases hk
      | none =>
        rw [hf] at hk
        have hl := fnd_lt hc
        have hno : ∀ i, i < nmL L e → ¬ owT T L h beh (t + 2 + 2 * i) = none := fun i hi => by simpa using fnd_none.mp hf i hi
        have ek : k = mkK e (nmL L e) (fun i => (owT T L h beh (t + 2 + 2 * i)).getD 0) := by simpa [nmL] using hk.symm
        refine ⟨e, rfl, hl, g, ek, hno, e, _, hl, ek, fun i hi => ?_⟩
        cases ho : owT T L h beh (t + 2 + 2 * i) with
        | none => exact absurd ho (hno i hi)
        | some o => exact ow_le hn hh ho
    · rw [if_neg g] at hk; cases hk
theorem L60_S (R : mjR) (n a : Nat) (b e f g i j : Int32) (hp : mjH) : L_60_83 R (n + 1) a b e f g i j hp = b_60_83 R (L_60_83 R n) a b e f g i j hp := rfl
theorem tI (t i : Nat) : nI t + (2 : Int32) + (2 : Int32) * nI i = nI (t + 2 + 2 * i) := by
  rw [show (2 : Int32) = nI 2 from rfl, nI_mul, nI_add, nI_add]
theorem lq_60 (X : JX T N q L s) (hh : ∀ c, h = some c → c < L.length) (f : s.1 58 6 = nI c) (hc : c ≤ N) (hk : KDk T N t) (beh : Bool) (he : e < L.length) (hnm : cntO T 6 (t + 2) = nmL L e) (m : Nat) : ∀ (r i : Nat), i + r = nmL L e → (∀ j, i ≤ j → j < nmL L e → ¬ owT T L h beh (t + 2 + 2 * j) = none) → L_60_83 (mjF (d + 2)) (m + r) 71 (oI h) (b2 beh) (nI t) (nI (nmL L e)) (nI (mkK e i (fun i => (owT T L h beh (t + 2 + 2 * i)).getD 0))) (nI i) (mjW0 s) = L_60_83 (mjF (d + 2)) m 71 (oI h) (b2 beh) (nI t) (nI (nmL L e)) (nI (mkK e (nmL L e) (fun i => (owT T L h beh (t + 2 + 2 * i)).getD 0))) (nI (nmL L e)) (mjW0 s)
  | 0, i, hi, _ => by rw [show i = nmL L e by omega]; rfl
  | r + 1, i, hi, ho => by
    obtain ⟨x1, x2, x3, x4, x5, x6, x7, x8⟩ := X
    have n5 := vK.n5 x3 he
    have h16 := x3.1
    have hN := x1.2.1
    have k4 := hk.2.2.2.1
    have ih := lq_60 ⟨x1, x2, x3, x4, x5, x6, x7, x8⟩ hh f hc hk beh he hnm m r (i + 1) (by omega) (fun j a b => ho j (by omega) b)
    rw [← ih, show m + (r + 1) = (m + r) + 1 by omega, L60_S]
    unfold b_60_83
    rw [if_neg (nI_ge (by omega) (by omega)), xV_71, tI, x_62 x1 x2 x3 x4 x5 x6.1 x7 hh f hc (by omega) (hk.2.2.2.2.1 i (by omega)) beh, bI_s]
    cases hw : owT T L h beh (t + 2 + 2 * i) with
    | none => exact absurd hw (ho i (by omega) (by omega))
    | some o =>
      have o6 := ow_le x3 hh hw
      rw [oI_s, if_neg (nI_m1 (by omega))]
      have e3 := x_103 (d := d + 1) (c := e) (i := i) (f := fun i => (owT T L h beh (t + 2 + 2 * i)).getD 0) (hp := mjW0 s) (by omega) (fun j hj => by
        show (owT T L h beh (t + 2 + 2 * j)).getD 0 < 8
        cases hw2 : owT T L h beh (t + 2 + 2 * j) with
        | none => show 0 < 8; omega
        | some o2 => have := ow_le x3 hh hw2; show o2 < 8; omega) (by omega)
      simp only [hw, Option.getD_some] at e3
      rw [e3, bI_s, nI_1]
/-- the KIND at the cursor, in a good state -/
theorem x_60 (X : JX T N q L s) (hh : ∀ c, h = some c → c < L.length) (f : fne s t) (hk : KDk T N t) (beh tr : Bool) (htr : s.1 71 4 = b2 tr) (hx : beh = true ∨ tr = true ∨ (KNW q s kn ∧ INP q s iN ip)) : match kdT T L h beh t with
    | some k => if (beh || tr || nst (nmL L) iN ip kn h k) = true then mjF (d + 3) 60 [.ref 71, .int (oI h), .int (b2 beh)] (mjW0 s) = some (some (.int (nI k)), mjW0 (tkGo s (t + 2 + 2 * cntO T 6 (t + 2)))) else ∃ s', mjF (d + 3) 60 [.ref 71, .int (oI h), .int (b2 beh)] (mjW0 s) = some (some (.int (nI k)), mjW0 s') ∧ bdd N s' ∧ o58 s s'
    | none => ∃ s', mjF (d + 3) 60 [.ref 71, .int (oI h), .int (b2 beh)] (mjW0 s) = some (some (.int (nI 0)), mjW0 s') ∧ bdd N s' ∧ o58 s s' := by
  have X0 := X
  obtain ⟨x1, x2, x3, x4, x5, x6, x7, x8⟩ := X
  have h16 := x3.1
  have hN := x1.2.1
  have k4 := hk.2.2.2.1
  have htN : t ≤ N := by omega
  have pre : mjF (d + 3) 60 [.ref 71, .int (oI h), .int (b2 beh)] (mjW0 s) = _ := e_60 (d := d + 2)
  unfold f_60 b_60_0 at pre
  rw [xg_71_0, xV_58, j_now x1 f.1 htN, bI_s, xg_71_0, xV_58, j_key x1 f.1 htN htN, bL_s, xV_71, x_56 x5 x6.1 x8 h16, bI_s, fn_cls x2 x3 x4 htN hk.1] at pre
  cases hc : clsK T L (kyT T t) with
  | none =>
    rw [hc, oI_n, if_pos rfl, xg_71_0, xV_58] at pre
    have en : kdT T L h beh t = none := by unfold kdT; rw [hc]
    rw [en]
    obtain ⟨s', a1, a2, a3⟩ := j_at (d := d + 1) (k := 5) x1 f htN htN (by decide)
    exact ⟨s', by rw [pre, a1, bN_s]; rfl, a2, a3⟩
  | some e =>
    have he := fnd_lt hc
    rw [hc, oI_s, if_neg (nI_m1 (by omega)), xV_71, x_61 x1 f.1 htN hk, bI_s, xg_71_2, x6.1, yg_1 x5, wya_1 x5 (by omega), (x7 e (by omega)).1] at pre
    have n5 := vK.n5 x3 he
    by_cases g : cntO T 6 (t + 2) = nmL L e
    · rw [if_pos (show nI (cntO T 6 (t + 2)) = nI (nmL L e) by rw [g]), x_102 (f := fun i => (owT T L h beh (t + 2 + 2 * i)).getD 0) (by omega), bI_s, g] at pre
      cases hf : fnd (fun i => decide (owT T L h beh (t + 2 + 2 * i) = none)) (nmL L e) with
      | some i =>
        obtain ⟨f1, f2, f3⟩ := fnd_some.mp hf
        have en : kdT T L h beh t = none := by
          unfold kdT
          rw [hc]
          dsimp only
          rw [if_pos (show cntO T 6 (t + 2) = (hC L e).2.1 from g), show fnd _ (hC L e).2.1 = some i from hf]
        rw [en]
        -- the loop up to i, then the refusal
        have st : ∀ (r j m : Nat), j + r = i → L_60_83 (mjF (d + 2)) (m + r) 71 (oI h) (b2 beh) (nI t) (nI (nmL L e)) (nI (mkK e j (fun i => (owT T L h beh (t + 2 + 2 * i)).getD 0))) (nI j) (mjW0 s) = L_60_83 (mjF (d + 2)) m 71 (oI h) (b2 beh) (nI t) (nI (nmL L e)) (nI (mkK e i (fun i => (owT T L h beh (t + 2 + 2 * i)).getD 0))) (nI i) (mjW0 s) := by
          intro r
          induction r with
          | zero => intro j m hj; rw [show j = i by omega]; rfl
          | succ r ih =>
            intro j m hj
            rw [show m + (r + 1) = (m + r) + 1 by omega, L60_S]
            unfold b_60_83
            rw [if_neg (nI_ge (by omega) (by omega)), xV_71, tI, x_62 x1 x2 x3 x4 x5 x6.1 x7 hh f.1 htN (by omega) (hk.2.2.2.2.1 j (by omega)) beh, bI_s]
            cases hw : owT T L h beh (t + 2 + 2 * j) with
            | none => exact absurd (f3 j (by omega)) (by simp [hw])
            | some o =>
              have o6 := ow_le x3 hh hw
              rw [oI_s, if_neg (nI_m1 (by omega))]
              have e3 := x_103 (d := d + 1) (c := e) (i := j) (f := fun i => (owT T L h beh (t + 2 + 2 * i)).getD 0) (hp := mjW0 s) (by omega) (fun j hj => by
                show (owT T L h beh (t + 2 + 2 * j)).getD 0 < 8
                cases hw2 : owT T L h beh (t + 2 + 2 * j) with
                | none => show 0 < 8; omega
                | some o2 => have := ow_le x3 hh hw2; show o2 < 8; omega) (by omega)
              simp only [hw, Option.getD_some] at e3
              rw [e3, bI_s, nI_1]
              exact ih (j + 1) m (by omega)
        obtain ⟨m, hm⟩ : ∃ m, mjN = (m + 1) + i := ⟨mjN - i - 1, by have := mjN_v; omega⟩
        rw [hm, show (0 : Int32) = nI 0 from rfl, st i 0 (m + 1) (by omega), L60_S] at pre
        unfold b_60_83 at pre
        rw [if_neg (nI_ge (by omega) (by omega)), xV_71, tI, x_62 x1 x2 x3 x4 x5 x6.1 x7 hh f.1 htN (by omega) (hk.2.2.2.2.1 i (by omega)) beh, bI_s, show owT T L h beh (t + 2 + 2 * i) = none by simpa using f2, oI_n, if_pos rfl, xg_71_0, xV_58] at pre
        obtain ⟨s', a1, a2, a3⟩ := j_at (d := d + 1) (k := 5) (t := t + 2 + 2 * i) x1 f htN (by omega) (by decide)
        exact ⟨s', by rw [pre, a1, bN_s]; rfl, a2, a3⟩
      | none =>
        have en : kdT T L h beh t = some (mkK e (nmL L e) (fun i => (owT T L h beh (t + 2 + 2 * i)).getD 0)) := by
          unfold kdT
          rw [hc]
          dsimp only
          rw [if_pos (show cntO T 6 (t + 2) = (hC L e).2.1 from g), show fnd _ (hC L e).2.1 = none from hf]
          rfl
        have v := (kd_v x3 hh en)
        obtain ⟨_, _, _, _, _, _, v⟩ := v
        obtain ⟨k, hkk⟩ : ∃ k, k = mkK e (nmL L e) (fun i => (owT T L h beh (t + 2 + 2 * i)).getD 0) := ⟨_, rfl⟩
        rw [← hkk] at en v
        rw [en]
        have hno : ∀ i, 0 ≤ i → i < nmL L e → ¬ owT T L h beh (t + 2 + 2 * i) = none := fun i _ hi => by simpa using fnd_none.mp hf i hi
        obtain ⟨m, hm⟩ : ∃ m, mjN = (m + 1) + nmL L e := ⟨mjN - nmL L e - 1, by have := mjN_v; omega⟩
        have lp := lq_60 (d := d) X0 hh f.1 htN hk beh he g (m + 1) (nmL L e) 0 (by omega) hno
        rw [hm, show (0 : Int32) = nI 0 from rfl, lp, L60_S, ← hkk] at pre
        unfold b_60_83 b_60_196 at pre
        have go := j_go (d := d + 1) (t := t + 2 + 2 * nmL L e) x1 f htN (by omega)
        rw [if_pos (nI_le (by omega) (by omega)), xg_71_0, xV_58, tI, go, bN_s, b2_i] at pre
        obtain ⟨z, hz⟩ : ∃ z, z = tkGo s (t + 2 + 2 * nmL L e) := ⟨_, rfl⟩
        have oz : o58 s z := by rw [hz]; exact o58.go _ _
        have fz : fne z (t + 2 + 2 * nmL L e) := by rw [hz]; exact f.go _
        have Xz := X0.o58 oz
        rw [← hz] at pre
        rw [g, ← hz]
        dsimp only
        cases beh with
        | true =>
          rw [if_pos rfl] at pre
          rw [Bool.true_or, Bool.true_or, if_pos rfl]
          exact pre
        | false =>
          rw [if_neg (by decide), xg_71_4, oz.r (by decide), htr, b2_i] at pre
          cases tr with
          | true =>
            rw [if_pos rfl] at pre
            rw [Bool.or_true, Bool.true_or, if_pos rfl]
            exact pre
          | false =>
            rw [if_neg (by decide), xg_71_2, oz.l, x6.1, yV x5] at pre
            rcases hx with hx | hx | hx
            · cases hx
            · cases hx
            have nn := x_nested (d := d) (h := h) x5 Xz.2.2.2.2.2.2.1 (hx.1.o58 x5 oz) (hx.2.o58 x5 oz) (fun c hc => by have := hh c hc; omega) (by have := v.lt x3; omega) (by have := v.cl x3; omega) (by have := (vK.n5 x3 (v.cl x3)).1; exact this) (v.ow x3)
            rw [nn, bI_s, b2_i] at pre
            rw [Bool.or_false, Bool.false_or]
            cases hb : nst (nmL L) iN ip kn h k with
            | true =>
              rw [hb, if_pos rfl] at pre
              rw [if_pos rfl]
              exact pre
            | false =>
              rw [hb, if_neg (by decide), xg_71_0, xV_58] at pre
              rw [if_neg (by decide)]
              obtain ⟨s', a1, a2, a3⟩ := j_at (d := d + 1) (k := 8) (t := t) Xz.1 fz (by omega) htN (by decide)
              exact ⟨s', by rw [pre, a1, bN_s], a2, oz.tr a3⟩
    · have en : kdT T L h beh t = none := by
        unfold kdT
        rw [hc]
        dsimp only
        rw [if_neg (show ¬ cntO T 6 (t + 2) = (hC L e).2.1 from g)]
      rw [en]
      rw [if_neg (show ¬ nI (cntO T 6 (t + 2)) = nI (nmL L e) from fun x => g ((nI_eq (by have := hk.2.2.1; omega) (by omega)).mp x)), xg_71_0, xV_58] at pre
      obtain ⟨s', a1, a2, a3⟩ := j_at (d := d + 1) (k := 6) x1 f htN htN (by decide)
      exact ⟨s', by rw [pre, a1, bN_s]; rfl, a2, a3⟩
/-- in a bad state -/
theorem x_60B (X : JX T N q L s) (b : bdd N s) (hh beh : Int32) : mjF (d + 3) 60 [.ref 71, .int hh, .int beh] (mjW0 s) = some (some (.int (nI 0)), mjW0 s) := by
  obtain ⟨x1, x2, x3, x4, x5, x6, x7, x8⟩ := X
  rw [e_60]
  unfold f_60 b_60_0
  rw [xg_71_0, xV_58, j_now x1 b.1 (Nat.le_refl N), bI_s, xg_71_0, xV_58, j_key x1 b.1 (Nat.le_refl N) (Nat.le_refl N), bL_s, xV_71, x_56 x5 x6.1 x8 x3.1, bI_s, fn_0 x2 x3 x4, oI_n, if_pos rfl, xg_71_0, xV_58, j_atB x1 b, bN_s]
  rfl
end MJA6
