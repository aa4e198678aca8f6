/-! ===== the reference's judge: judgeNested, judgeKind ===== -/
def allR (f : Nat → Bool) : Nat → Nat → Bool
  | _, 0 => true
  | i, r + 1 => f i && allR f (i + 1) r
theorem allR_iff {f : Nat → Bool} : ∀ (r i : Nat), allR f i r = true ↔ ∀ j, i ≤ j → j < i + r → f j = true
  | 0, i => ⟨fun _ j h1 h2 => absurd h2 (by omega), fun _ => rfl⟩
  | r + 1, i => by
    show (f i && allR f (i + 1) r) = true ↔ _
    rw [Bool.and_eq_true, allR_iff r (i + 1)]
    constructor
    · intro ⟨a, b⟩ j h1 h2
      by_cases e : j = i
      · rw [e]; exact a
      · exact b j (by omega) (by omega)
    · intro h
      exact ⟨h i (by omega) (by omega), fun j h1 h2 => h j (by omega) (by omega)⟩
/-- the reference's INS -/
def IRr (T : TT) (L : List CD) (b : Nat) (s : mjSt3) : Prop := ∀ c, c < L.length → ∀ i, i < inL L c → s.1 117 (8 * (16 * b + c) + i) = nI (ipT T L c i).1 ∧ s.1 118 (8 * (16 * b + c) + i) = nI (ipT T L c i).2
/-- what the reference asks for two OWNERS of a TEXT -/
def kbR (T : TT) (L : List CD) (h : Option Nat) (a e : Nat) : Bool := kbG (knF T L) h a e
section MJA69
variable {T : TT} {d N b k t c n kk : Nat} {ks : List Nat} {L : List CD} {s s' : mjSt3} {h : Option Nat} {tr : Bool}
theorem L310_S (R : mjR) (n a : Nat) (b e f g i : Int32) (hp : mjH) : L_310_28 R (n + 1) a b e f g i hp = b_310_28 R (L_310_28 R n) a b e f g i hp := rfl
theorem L310b_S (R : mjR) (n a : Nat) (b e f g i : Int32) (hp : mjH) : L_310_87 R (n + 1) a b e f g i hp = b_310_87 R (L_310_87 R n) a b e f g i hp := rfl
theorem ip_lt (hn : HN T N L) (hc : c < L.length) (i : Nat) : (ipT T L c i).1 < nmL L c ∧ (ipT T L c i).2 < nmL L c := by
  have n1 := (hn.2 c hc).2.2.1
  have key : ∀ x, (nmK T L c x).getD 0 < nmL L c := by
    intro x
    cases hx : nmK T L c x with
    | none => show 0 < nmL L c; unfold nmL; omega
    | some y => exact fnd_lt hx
  exact ⟨key _, key _⟩
theorem i8m (b c : Nat) : (8 : Int32) * nI b + nI c = nI (8 * b + c) := by rw [show (8 : Int32) = nI 8 from rfl, nI_mul, nI_ad]
theorem b2_and {g f : Bool} {α : Type} (x y : α) : (if b2 g = 0 then x else if b2 f = 0 then x else y) = if (g && f) = true then y else x := by cases g <;> cases f <;> rfl
/-- the second loop: the INS of the KIND's CLASS -/
theorem lq_310b (J : RJ T N b ks L s) (W : WIT b s L.length (knF T L)) (I : IRr T L b s) (hh : ∀ c, h = some c → c < L.length) (hk : k < 1600) (v : vK L kk) (K : KRr b s k (nmL L (cK kk)) kk) : ∀ (r i m : Nat) (g : Bool), i + r = inL L (cK kk) → r < m → L_310_87 (mjF (d + 2)) m 97 (nI k) (cR b h) (nI (16 * b + cK kk)) (b2 g) (nI i) (mjW0 s) = if (g && allR (fun i => kbR T L h (oK kk (ipT T L (cK kk) i).1) (oK kk (ipT T L (cK kk) i).2)) i r) = true then some (none, mjW0 s) else bN (mjF (d + 2) 268 [.ref 97, .int 8, .int (s.1 137 k)] (mjW0 s)) (fun hp5 => some (none, hp5))
  | r, i, 0, g, e, hr => by omega
  | 0, i, m + 1, g, e, hr => by
    have hb := J.b1
    have h16 := J.len
    have hc := vK.cl J.2.2.2.2.2.1 v
    have H := J.hd hc
    have i8 : inL L (cK kk) ≤ 8 := H.2.2.2.2.2.2.2.2
    rw [L310b_S]
    unfold b_310_87
    rw [xg_97_17, wa_106 (by omega), show s.1 106 (16 * b + cK kk) = nI (inL L (cK kk)) from H.2.2.2.2.2.1.1, if_pos (nI_le (show inL L (cK kk) ≤ i by omega) (by omega))]
    show (if b2 g = 0 then _ else _) = if (g && true) = true then _ else _
    rw [Bool.and_true]
    cases g with
    | true => rfl
    | false => rw [if_pos (show b2 false = 0 from rfl), xg_97_48, wa_137 hk, xV_97]; rfl
  | r + 1, i, m + 1, g, e, hr => by
    have hb := J.b1
    have h16 := J.len
    have hn := J.2.2.2.2.2.1
    have hc := vK.cl hn v
    have H := J.hd hc
    have i8 : inL L (cK kk) ≤ 8 := H.2.2.2.2.2.2.2.2
    have ip := ip_lt hn hc i
    have n5 := vK.n5 hn hc
    have vo := vK.ow hn v
    obtain ⟨I1, I2⟩ := I (cK kk) hc i (by omega)
    rw [L310b_S]
    unfold b_310_87 b_310_157 b_310_158
    rw [xg_97_17, wa_106 (by omega), show s.1 106 (16 * b + cK kk) = nI (inL L (cK kk)) from H.2.2.2.2.2.1.1, if_neg (nI_ge (show i < inL L (cK kk) by omega) (by omega)), nI_1]
    have e1 : L_310_87 (mjF (d + 2)) m 97 (nI k) (cR b h) (nI (16 * b + cK kk)) 0 (nI (i + 1)) (mjW0 s) = bN (mjF (d + 2) 268 [.ref 97, .int 8, .int (s.1 137 k)] (mjW0 s)) (fun hp5 => some (none, hp5)) := by
      have := lq_310b J W I hh hk v K r (i + 1) m false (by omega) (by omega)
      rw [Bool.false_and] at this
      exact this
    rw [e1]
    show _ = if (g && (kbR T L h (oK kk (ipT T L (cK kk) i).1) (oK kk (ipT T L (cK kk) i).2) && allR (fun i => kbR T L h (oK kk (ipT T L (cK kk) i).1) (oK kk (ipT T L (cK kk) i).2)) (i + 1) r)) = true then _ else _
    cases g with
    | false => rfl
    | true =>
      rw [if_neg (show ¬ b2 true = 0 by decide), xg_97_53, xg_97_28, i8m, wa_117 (by omega), I1, i5m, wa_142 (by omega), K.2 _ ip.1, xg_97_53, xg_97_29, wa_118 (by omega), I2, i5m, wa_142 (by omega), K.2 _ ip.2, xV_97, x_311 hb W h16 hh (vo _ (by omega)) (vo _ (by omega)), bI_s, Bool.true_and]
      have e2 := lq_310b J W I hh hk v K r (i + 1) m true (by omega) (by omega)
      rw [Bool.true_and] at e2
      have e3 : L_310_87 (mjF (d + 2)) m 97 (nI k) (cR b h) (nI (16 * b + cK kk)) 1 (nI (i + 1)) (mjW0 s) = _ := e2
      rw [e3]
      show (if b2 (kbR T L h (oK kk (ipT T L (cK kk) i).1) (oK kk (ipT T L (cK kk) i).2)) = 0 then _ else _) = _
      cases kbR T L h (oK kk (ipT T L (cK kk) i).1) (oK kk (ipT T L (cK kk) i).2) with
      | false => rw [if_pos (show b2 false = 0 from rfl), e1]; rfl
      | true => rw [if_neg (show ¬ b2 true = 0 by decide), Bool.true_and]
/-- the first loop: the first OWNER in the others -/
theorem lq_310 (J : RJ T N b ks L s) (W : WIT b s L.length (knF T L)) (I : IRr T L b s) (hh : ∀ c, h = some c → c < L.length) (hk : k < 1600) (v : vK L kk) (K : KRr b s k (nmL L (cK kk)) kk) (hcn : s.1 138 k = nI (nmL L (cK kk))) : ∀ (r i m : Nat) (g : Bool), i + r = nmL L (cK kk) → r < m → L_310_28 (mjF (d + 2)) m 97 (nI k) (cR b h) (nI (16 * b + cK kk)) (b2 g) (nI i) (mjW0 s) = if (g && allR (fun i => kbR T L h (oK kk 0) (oK kk i)) i r && allR (fun i => kbR T L h (oK kk (ipT T L (cK kk) i).1) (oK kk (ipT T L (cK kk) i).2)) 0 (inL L (cK kk))) = true then some (none, mjW0 s) else bN (mjF (d + 2) 268 [.ref 97, .int 8, .int (s.1 137 k)] (mjW0 s)) (fun hp5 => some (none, hp5))
  | r, i, 0, g, e, hr => by omega
  | 0, i, m + 1, g, e, hr => by
    have hn := J.2.2.2.2.2.1
    have hc := vK.cl hn v
    have H := J.hd hc
    have i8 : inL L (cK kk) ≤ 8 := H.2.2.2.2.2.2.2.2
    have n5 := vK.n5 hn hc
    rw [L310_S]
    unfold b_310_28
    rw [xg_97_49, wa_138 hk, hcn, if_pos (nI_le (by omega) (by omega)), show (0 : Int32) = nI 0 from rfl, lq_310b (d := d) J W I hh hk v K (inL L (cK kk)) 0 mjN g (by omega) (by have := mjN_v; omega)]
    show _ = if (g && true && _) = true then _ else _
    rw [Bool.and_true]
  | r + 1, i, m + 1, g, e, hr => by
    have hb := J.b1
    have h16 := J.len
    have hn := J.2.2.2.2.2.1
    have hc := vK.cl hn v
    have n5 := vK.n5 hn hc
    have vo := vK.ow hn v
    rw [L310_S]
    unfold b_310_28 b_310_75 b_310_76
    rw [xg_97_49, wa_138 hk, hcn, if_neg (nI_ge (by omega) (by omega)), nI_1]
    have e1 : L_310_28 (mjF (d + 2)) m 97 (nI k) (cR b h) (nI (16 * b + cK kk)) 0 (nI (i + 1)) (mjW0 s) = bN (mjF (d + 2) 268 [.ref 97, .int 8, .int (s.1 137 k)] (mjW0 s)) (fun hp5 => some (none, hp5)) := by
      have := lq_310 J W I hh hk v K hcn r (i + 1) m false (by omega) (by omega)
      rw [Bool.false_and, Bool.false_and] at this
      exact this
    rw [e1]
    show _ = if (g && (kbR T L h (oK kk 0) (oK kk i) && allR (fun i => kbR T L h (oK kk 0) (oK kk i)) (i + 1) r) && _) = true then _ else _
    cases g with
    | false => rfl
    | true =>
      rw [if_neg (show ¬ b2 true = 0 by decide), xg_97_53, show (5 : Int32) * nI k = nI (5 * k) by rw [show (5 : Int32) = nI 5 from rfl, nI_mul], wa_142 (by omega), show s.1 142 (5 * k) = oR (oK kk 0) from K.2 0 (by omega), xg_97_53, nI_ad, wa_142 (by omega), K.2 i (by omega), xV_97, x_311 hb W h16 hh (vo _ (by omega)) (vo _ (by omega)), bI_s, Bool.true_and]
      have e2 := lq_310 J W I hh hk v K hcn r (i + 1) m true (by omega) (by omega)
      rw [Bool.true_and] at e2
      have e3 : L_310_28 (mjF (d + 2)) m 97 (nI k) (cR b h) (nI (16 * b + cK kk)) 1 (nI (i + 1)) (mjW0 s) = _ := e2
      rw [e3]
      show (if b2 (kbR T L h (oK kk 0) (oK kk i)) = 0 then _ else _) = _
      cases kbR T L h (oK kk 0) (oK kk i) with
      | false => rw [if_pos (show b2 false = 0 from rfl), e1]; rfl
      | true => rw [if_neg (show ¬ b2 true = 0 by decide), Bool.true_and]
/-- the reference's question is the class's -/
theorem kb_nst (hn : HN T N L) (hc : cK kk < L.length) (hm : h = none → ∀ i, i < nmL L (cK kk) → oK kk i = 5) : (true && allR (fun i => kbR T L h (oK kk 0) (oK kk i)) 1 (nmL L (cK kk) - 1) && allR (fun i => kbR T L h (oK kk (ipT T L (cK kk) i).1) (oK kk (ipT T L (cK kk) i).2)) 0 (inL L (cK kk))) = nsT T L h kk := by
  have n1 := (vK.n5 hn hc).1
  have kb : ∀ i j, i < nmL L (cK kk) → j < nmL L (cK kk) → kbR T L h (oK kk i) (oK kk j) = knB (knF T L) h (oK kk i) (oK kk j) := by
    intro i j hi hj
    cases h with
    | none =>
      rw [hm rfl i hi, hm rfl j hj]
      rfl
    | some c => rfl
  rw [Bool.true_and, Bool.eq_iff_iff, Bool.and_eq_true, allR_iff, allR_iff]
  unfold nsT nst
  rw [Bool.and_eq_true, allB_iff, allB_iff]
  constructor
  · intro ⟨a, e⟩
    refine ⟨fun i hi => ?_, fun i hi => ?_⟩
    · by_cases e0 : i = 0
      · rw [decide_eq_true e0]; rfl
      · rw [decide_eq_false e0, Bool.false_or, ← kb 0 i (by omega) hi]
        exact a i (by omega) (by omega)
    · rw [← kb _ _ (ip_lt hn hc i).1 (ip_lt hn hc i).2]
      exact e i (by omega) (by omega)
  · intro ⟨a, e⟩
    refine ⟨fun i h1 h2 => ?_, fun i _ hi => ?_⟩
    · have := a i (by omega)
      rw [decide_eq_false (by omega), Bool.false_or, ← kb 0 i (by omega) (by omega)] at this
      exact this
    · rw [kb _ _ (ip_lt hn hc i).1 (ip_lt hn hc i).2]
      exact e i (by omega)
/-- judgeNested of a KIND whose CLASS and OWNERS are found -/
theorem x_310 (J : RJ T N b ks L s) (W : WIT b s L.length (knF T L)) (I : IRr T L b s) (ht : s.1 97 129 = b2 tr) (hh : ∀ c, h = some c → c < L.length) (hk : k < 1600) (v : vK L kk) (g : GR s) (K : gR0 s → KRr b s k (nmL L (cK kk)) kk ∧ s.1 138 k = nI (nmL L (cK kk))) (hm : h = none → ∀ i, i < nmL L (cK kk) → oK kk i = 5) : ∃ s', mjF (d + 3) 310 [.ref 97, .int (nI k), .int (cR b h)] (mjW0 s) = some (none, mjW0 s') ∧ o61 s s' ∧ GR s' ∧ (gR0 s' ↔ gR0 s ∧ (tr || nsT T L h kk) = true) := by
  have hn := J.2.2.2.2.2.1
  have hc := vK.cl hn v
  have n1 := vK.n5 hn hc
  rw [e_310]
  unfold f_310 b_310_0
  rw [xg_97_129, ht]
  cases tr with
  | true =>
    rw [if_neg (show ¬ b2 true = 0 by decide)]
    exact ⟨s, rfl, offG.rf, g, ⟨fun x => ⟨x, rfl⟩, fun x => x.1⟩⟩
  | false =>
    rw [if_pos (show b2 false = 0 from rfl), xg_97_61, Bool.false_or]
    rcases g with g0 | g0
    · have g0' : s.1 97 61 = 0 := g0
      obtain ⟨K1, K2⟩ := K g0
      rw [g0', if_pos (Int32.le_refl _), xg_97_50, wa_139 hk, K1.1, show (1 : Int32) = nI 1 from rfl]
      have e := lq_310 (d := d) J W I hh hk v K1 K2 (nmL L (cK kk) - 1) 1 mjN true (by omega) (by have := mjN_v; omega)
      rw [kb_nst hn hc hm] at e
      rw [show L_310_28 (mjF (d + 2)) mjN 97 (nI k) (cR b h) (nI (16 * b + cK kk)) (nI 1) (nI 1) (mjW0 s) = _ from e]
      by_cases ns : nsT T L h kk = true
      · rw [if_pos ns]
        exact ⟨s, rfl, offG.rf, Or.inl g0, ⟨fun x => ⟨x, ns⟩, fun x => x.1⟩⟩
      · rw [if_neg ns]
        obtain ⟨s', a1, a2, a3⟩ := x_268 (d := d + 1) (s := s) (Or.inl g0) (a := 8) (by decide) (s.1 137 k)
        rw [a1, bN_s]
        exact ⟨s', rfl, a2, Or.inr a3, ⟨fun x => absurd x a3.ng, fun x => absurd x.2 ns⟩⟩
    · have g0' : ¬ s.1 97 61 ≤ 0 := g0
      rw [if_neg g0']
      exact ⟨s, rfl, offG.rf, Or.inr g0, ⟨fun x => absurd x g0.ng, fun x => absurd x.1 g0.ng⟩⟩
end MJA69
