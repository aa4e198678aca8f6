/-! ===== the reference's judge of BLOCKS: isHidden ===== -/
def anyR (f : Nat → Bool) : Nat → Nat → Bool
  | _, 0 => false
  | i, r + 1 => f i || anyR f (i + 1) r
theorem anyR_iff {f : Nat → Bool} : ∀ (r i : Nat), anyR f i r = true ↔ ∃ j, i ≤ j ∧ j < i + r ∧ f j = true
  | 0, i => ⟨fun h => (by cases h), fun ⟨j, h1, h2, _⟩ => by omega⟩
  | r + 1, i => by
    show (f i || anyR f (i + 1) r) = true ↔ _
    rw [Bool.or_eq_true, anyR_iff r (i + 1)]
    constructor
    · intro h
      rcases h with h | ⟨j, h1, h2, h3⟩
      · exact ⟨i, by omega, by omega, h⟩
      · exact ⟨j, by omega, by omega, h3⟩
    · intro ⟨j, h1, h2, h3⟩
      by_cases e : j = i
      · rw [e] at h3; exact Or.inl h3
      · exact Or.inr ⟨j, by omega, by omega, h3⟩
theorem anyB_iff {f : Nat → Bool} : ∀ (n : Nat), anyB f n = true ↔ ∃ j, j < n ∧ f j = true
  | 0 => ⟨fun h => (by cases h), fun ⟨j, h1, _⟩ => by omega⟩
  | n + 1 => by
    show (anyB f n || f n) = true ↔ _
    rw [Bool.or_eq_true, anyB_iff n]
    constructor
    · intro h
      rcases h with ⟨j, h1, h2⟩ | h
      · exact ⟨j, by omega, h2⟩
      · exact ⟨n, by omega, h⟩
    · intro ⟨j, h1, h2⟩
      by_cases e : j = n
      · rw [e] at h2; exact Or.inr h2
      · exact Or.inl ⟨j, by omega, h2⟩
theorem any_RB {f : Nat → Bool} (n : Nat) : anyR f 0 n = anyB f n := by
  have h1 := anyR_iff (f := f) n 0
  have h2 := anyB_iff (f := f) n
  cases a : anyR f 0 n with
  | true =>
    obtain ⟨j, _, x, y⟩ := h1.mp a
    exact (h2.mpr ⟨j, by omega, y⟩).symm
  | false =>
    cases e : anyB f n with
    | false => rfl
    | true =>
      obtain ⟨j, x, y⟩ := h2.mp e
      rw [h1.mpr ⟨j, by omega, by omega, y⟩] at a
      cases a
theorem hTs_iff {k : Nat} : ∀ (n : Nat), hTs k n = true ↔ ∃ i, i < n ∧ oK k i = 6
  | 0 => ⟨fun h => (by cases h), fun ⟨j, h1, _⟩ => by omega⟩
  | n + 1 => by
    show (hTs k n || decide (oK k n = 6)) = true ↔ _
    rw [Bool.or_eq_true, hTs_iff n, decide_eq_true_iff]
    constructor
    · intro h
      rcases h with ⟨j, h1, h2⟩ | h
      · exact ⟨j, by omega, h2⟩
      · exact ⟨n, by omega, h⟩
    · intro ⟨j, h1, h2⟩
      by_cases e : j = n
      · rw [e] at h2; exact Or.inr h2
      · exact Or.inl ⟨j, by omega, h2⟩
section MJA95
variable {T : TT} {d N b k t c n m : Nat} {ks : List Nat} {L : List CD} {s s' : mjSt3} {ti : Int32} {tr : Bool}
/-- this stands among a KIND's OWNERS just where its token does -/
theorem kd_this (hn : HN T N L) (hcl : c < L.length) {u : Nat} (h : kdT T L (some c) false t = some u) {i : Nat} (hi : i < nmL L (cK u)) : oK u i = 6 ↔ (T (t + 2 + 2 * i)).1 = 12 := by
  unfold kdT at h
  cases hc : clsK T L (kyT T t) with
  | none => rw [hc] at h; cases h
  | some e =>
    rw [hc] at h
    dsimp only at h
    have he : e < L.length := fnd_lt hc
    have n5 := vK.n5 hn he
    by_cases g : cntO T 6 (t + 2) = (hC L e).2.1
    · rw [if_pos g] at h
      cases hf : fnd (fun i => decide (owT T L (some c) false (t + 2 + 2 * i) = none)) (hC L e).2.1 with
      | some i => rw [hf] at h; cases h
      | none =>
        rw [hf] at h
        cases h
        have f8 : ∀ i, i < nmL L e → (owT T L (some c) false (t + 2 + 2 * i)).getD 0 < 8 := by
          intro i hi
          cases ho : owT T L (some c) false (t + 2 + 2 * i) with
          | none => show 0 < 8; omega
          | some x =>
            have := owT_le hn (fun c' e => by cases e; exact hcl) ho
            show x < 8
            omega
        have ec : cK (mkK e (hC L e).2.1 (fun i => (owT T L (some c) false (t + 2 + 2 * i)).getD 0)) = e := mkK_c n5.2 f8
        rw [ec] at hi
        have eo : oK (mkK e (hC L e).2.1 (fun i => (owT T L (some c) false (t + 2 + 2 * i)).getD 0)) i = (owT T L (some c) false (t + 2 + 2 * i)).getD 0 := mkK_o n5.2 f8 hi
        rw [eo]
        have nn := of_decide_eq_false (fnd_none.mp hf i hi)
        cases ho : owT T L (some c) false (t + 2 + 2 * i) with
        | none => exact absurd ho nn
        | some x =>
          show x = 6 ↔ _
          unfold owT at ho
          by_cases g13 : (T (t + 2 + 2 * i)).1 = 13
          · rw [if_pos g13] at ho
            cases ho
            rw [g13]
            decide
          · rw [if_neg g13] at ho
            dsimp only at ho
            by_cases g12 : (T (t + 2 + 2 * i)).1 = 12
            · rw [if_pos g12, if_neg (by decide)] at ho
              cases ho
              exact ⟨fun _ => g12, fun _ => rfl⟩
            · rw [if_neg g12] at ho
              have := nmK_lt hn hcl ho
              exact ⟨fun e => by omega, fun e => absurd e g12⟩
    · rw [if_neg g] at h; cases h
theorem vK_z (hn : HN T N L) (h : vK L k) {i : Nat} (h1 : nmL L (cK k) ≤ i) (h5 : i < 5) : oK k i = 0 := by
  obtain ⟨e, f, h1', h2, h3⟩ := h
  have n5 := (vK.n5 hn h1').2
  have f8 : ∀ i, i < nmL L e → f i < 8 := fun i hi => by have := h3 i hi; omega
  have ec : cK k = e := by rw [h2]; exact mkK_c n5 f8
  rw [ec] at h1
  rw [h2]
  exact mkK_z n5 f8 h1 h5
theorem L331_S (R : mjR) (n a : Nat) (b e f : Int32) (hp : mjH) : L_331_4 R (n + 1) a b e f hp = b_331_4 R (L_331_4 R n) a b e f hp := rfl
theorem lq_331 (nk : NKp T N) (K : Kd T s k t) (KD : KDk T N t) (hk : k < 1600) (R : mjR) : ∀ (r i n : Nat) (g : Bool), i + r = cntO T 6 (t + 2) → r < n → L_331_4 R n 97 (nI k) (b2 g) (nI i) (mjW0 s) = some (some (.int (b2 (g || anyR (fun j => decide ((T (t + 2 + 2 * j)).1 = 12)) i r))), mjW0 s)
  | r, i, 0, g, e, hr => by omega
  | 0, i, n + 1, g, e, hr => by
    rw [L331_S]
    unfold b_331_4 b_331_51
    rw [if_neg (nI_pos (by omega)), xg_97_49, wa_138 hk, K.2.2.2.1, if_pos (nI_le (by omega) (by have := K.1; omega)), if_pos (b2_nar _)]
    show _ = some (some (Value.int (b2 (g || false))), mjW0 s)
    rw [Bool.or_false]
  | r + 1, i, n + 1, g, e, hr => by
    have c5 := K.1
    rw [L331_S]
    unfold b_331_4 b_331_39 b_331_44
    rw [if_neg (nI_pos (by omega)), xg_97_49, wa_138 hk, K.2.2.2.1, if_neg (nI_ge (by omega) (by omega)), nI_1]
    show _ = some (some (Value.int (b2 (g || (decide ((T (t + 2 + 2 * i)).1 = 12) || anyR _ (i + 1) r)))), mjW0 s)
    have on : L_331_4 R n 97 (nI k) 1 (nI (i + 1)) (mjW0 s) = some (some (.int (b2 true)), mjW0 s) := lq_331 nk K KD hk R r (i + 1) n true (by omega) (by omega)
    have off := lq_331 nk K KD hk R r (i + 1) n false (by omega) (by omega)
    cases g with
    | true =>
      rw [if_neg (show ¬ b2 true = 0 by decide)]
      exact on
    | false =>
      rw [if_pos (show b2 false = 0 from rfl), xg_97_51, i5m, wa_140 (by omega), (K.2.2.2.2 i (by omega)).1, Bool.false_or]
      have ow := KD.2.2.2.2.1 i (by omega)
      have tN : t + 2 + 2 * i ≤ N := by have := KD.2.2.2.1; omega
      have iff : owR T (t + 2 + 2 * i) = -2 ↔ (T (t + 2 + 2 * i)).1 = 12 := by
        unfold owR
        rcases ow with o | o | o
        · rw [o, if_neg (by decide), if_pos rfl]; exact ⟨fun _ => rfl, fun _ => rfl⟩
        · rw [o, if_neg (by decide), if_neg (by decide)]; decide
        · rw [if_pos o, o]
          exact ⟨fun x => absurd x (nk _ tN o).2, fun x => absurd x (by decide)⟩
      by_cases q : (T (t + 2 + 2 * i)).1 = 12
      · rw [if_pos ((lg_cmp_eq _ _).mpr (iff.mpr q)), decide_eq_true q]
        exact on
      · rw [if_neg (fun x => q (iff.mp ((lg_cmp_eq _ _).mp x))), decide_eq_false q, Bool.false_or]
        rw [Bool.false_or] at off
        exact off
/-- hasThis -/
theorem x_331 (J : RJ T N b ks L s) (hcl : c < L.length) (hT : TyI T b ks t ti) (hk : TYk T N t) (ok : ¬ (T t).1 = 10 → ∃ k, kdT T L (some c) false t = some k) : mjF (d + 1) 331 [.ref 97, .int ti] (mjW0 s) = some (some (.int (b2 (hasT (tyT T L (some c) t)))), mjW0 s) := by
  have hmj := mjN_v
  have hn := J.2.2.2.2.2.1
  rw [e_331]
  unfold f_331 b_331_0
  rcases hT with ⟨h10, e⟩ | ⟨h10, i, hi, e⟩
  · rw [e, show mjN = 99999999 + 1 from rfl, L331_S]
    unfold b_331_4 b_331_51
    rw [if_pos (by decide), if_pos (show narrow .boolean (.int (0 : Int32)) = .int 0 by decide)]
    unfold tyT
    rw [if_pos h10]
    rfl
  · have i750 := (List.getElem?_eq_some_iff.mp hi).1
    have l750 := J.2.2.2.1
    have hb := J.b1
    have K := J.2.2.1 i t hi
    obtain ⟨kk, hkk⟩ := ok h10
    have KD : KDk T N t := hk.elim (fun x => absurd x.1 h10) (fun x => x.2)
    obtain ⟨vk, cn, _⟩ := kd_vK hn (fun x e => by cases e; exact hcl) hkk
    have n5 := (vK.n5 hn (vk.cl hn)).2
    have := lq_331 (k := 800 * b + i) J.2.2.2.2.2.2 K KD (by omega) (mjF d) (cntO T 6 (t + 2)) 0 mjN false (by omega) (by omega)
    rw [Bool.false_or] at this
    have et : tyT T L (some c) t = kk + 2 := by
      unfold tyT
      rw [if_neg h10, hkk]
    have eh : hasT (tyT T L (some c) t) = anyR (fun j => decide ((T (t + 2 + 2 * j)).1 = 12)) 0 (cntO T 6 (t + 2)) := by
      rw [et]
      show hTs kk 5 = _
      have i1 := hTs_iff (k := kk) 5
      have i2 := anyR_iff (f := fun j => decide ((T (t + 2 + 2 * j)).1 = 12)) (cntO T 6 (t + 2)) 0
      have both : hTs kk 5 = true ↔ anyR (fun j => decide ((T (t + 2 + 2 * j)).1 = 12)) 0 (cntO T 6 (t + 2)) = true := by
        rw [i1, i2]
        constructor
        · intro ⟨j, h1, h2⟩
          by_cases g : j < nmL L (cK kk)
          · exact ⟨j, by omega, by omega, decide_eq_true ((kd_this hn hcl hkk g).mp h2)⟩
          · rw [vK_z hn vk (by omega) h1] at h2
            omega
        · intro ⟨j, _, h2, h3⟩
          have g : j < nmL L (cK kk) := by omega
          exact ⟨j, by omega, (kd_this hn hcl hkk g).mpr (of_decide_eq_true h3)⟩
      cases a : hTs kk 5 with
      | true => exact (both.mp a).symm
      | false =>
        cases e : anyR (fun j => decide ((T (t + 2 + 2 * j)).1 = 12)) 0 (cntO T 6 (t + 2)) with
        | false => rfl
        | true =>
          rw [both.mpr e] at a
          cases a
    rw [eh, e]
    exact this
theorem L330_S (R : mjR) (n a : Nat) (b e f : Int32) (hp : mjH) : L_330_13 R (n + 1) a b e f hp = b_330_13 R (L_330_13 R n) a b e f hp := rfl
theorem lq_330 (J : RJ T N b ks L s) (O : ORD T b ks L) (P0 : PFm T N L) (hm : m < nMem L) (ok : OKm T L tr m) : ∀ (r i n : Nat) (g : Bool), i + r = (psM L m).length → r < n → L_330_13 (mjF (d + 1)) n 97 (nI (400 * b + m)) (b2 g) (nI i) (mjW0 s) = some (some (.int (b2 (g || anyR (fun i => hasT (pyT T L m i)) i r))), mjW0 s)
  | r, i, 0, g, e, hr => by omega
  | 0, i, n + 1, g, e, hr => by
    have p6 := J.p6 hm
    have hb := J.b1
    have m384 := J.n384
    rw [L330_S]
    unfold b_330_13
    rw [xg_97_39, wa_128 (by omega), p6.1, if_pos (nI_le (by omega) (by omega)), if_pos (b2_nar _)]
    show _ = some (some (Value.int (b2 (g || false))), mjW0 s)
    rw [Bool.or_false]
  | r + 1, i, n + 1, g, e, hr => by
    have p6 := J.p6 hm
    have hb := J.b1
    have m384 := J.n384
    have hi : i < (psM L m).length := by omega
    obtain ⟨M1, hc⟩ := J.mem hm
    obtain ⟨p, hp⟩ : ∃ p, (psM L m)[i]? = some p := ⟨_, List.getElem?_eq_getElem hi⟩
    have v133 : s.1 133 (6 * (400 * b + m) + i) = p.2.2 := (M1.2.2.1.2 i p hp).1
    have ty1 := ((O.1 m hm).2 i p hp).1
    have pf := (P0 m hm).2.2.2.2.2 i p hp
    have okp := (ok.2.2 i hi p hp).1
    have epy : pyT T L m i = tyT T L (some (hmM L m)) p.1 := by
      unfold pyT
      rw [hp]
    rw [L330_S]
    unfold b_330_13 b_330_45 b_330_50
    rw [xg_97_39, wa_128 (by omega), p6.1, if_neg (nI_ge (by omega) (by omega)), nI_1]
    show _ = some (some (Value.int (b2 (g || (hasT (pyT T L m i) || anyR _ (i + 1) r)))), mjW0 s)
    have on : L_330_13 (mjF (d + 1)) n 97 (nI (400 * b + m)) 1 (nI (i + 1)) (mjW0 s) = some (some (.int (b2 true)), mjW0 s) := lq_330 J O P0 hm ok r (i + 1) n true (by omega) (by omega)
    have off := lq_330 J O P0 hm ok r (i + 1) n false (by omega) (by omega)
    cases g with
    | true =>
      rw [if_neg (show ¬ b2 true = 0 by decide)]
      exact on
    | false =>
      rw [if_pos (show b2 false = 0 from rfl), xg_97_44, i6m, wa_133 (by omega), v133, xV_97, x_331 J hc ty1 pf.1 (fun x => by obtain ⟨k, h1, _⟩ := okp x; exact ⟨k, h1⟩), bI_s, Bool.false_or, epy]
      cases hasT (tyT T L (some (hmM L m)) p.1) with
      | true =>
        rw [if_neg (show ¬ b2 true = 0 by decide)]
        exact on
      | false =>
        rw [if_pos (show b2 false = 0 from rfl), Bool.false_or]
        rw [Bool.false_or] at off
        exact off
/-- isHidden -/
theorem x_330 (J : RJ T N b ks L s) (O : ORD T b ks L) (P0 : PFm T N L) (hm : m < nMem L) (ok : OKm T L tr m) : mjF (d + 2) 330 [.ref 97, .int (nI (400 * b + m))] (mjW0 s) = some (some (.int (b2 (hidM T L m))), mjW0 s) := by
  have hmj := mjN_v
  have p6 := J.p6 hm
  have hb := J.b1
  have m384 := J.n384
  obtain ⟨M1, hc⟩ := J.mem hm
  have v126 : s.1 126 (400 * b + m) = (mdM L m).2.2.2.2.2.2.2 := M1.1.2.1
  rw [e_330]
  unfold f_330 b_330_0
  rw [xg_97_37, wa_126 (by omega), v126, xV_97, x_331 J hc (O.1 m hm).1 (P0 m hm).1 (fun x => by obtain ⟨k, h1, _⟩ := ok.1 x; exact ⟨k, h1⟩), bI_s]
  have := lq_330 (d := d) (s := s) J O P0 hm ok (psM L m).length 0 mjN (hasT (tyT T L (some (hmM L m)) (mdM L m).1)) (by omega) (by omega)
  unfold hidM
  rw [← any_RB]
  exact this
end MJA95
