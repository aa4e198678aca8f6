/-! ===== isIn, on both ===== -/
def owAsk (n : Nat) (v : Int32) : Option Nat := if v = -1 then some 5 else if v = -2 then some 6 else if v < 0 then none else if nI n ≤ v then none else some (nN v)
section MJB85
variable {T : TT} {d N b kb q i n o k : Nat} {t : PT} {rs : List RcM} {z : PB} {tr : Bool} {cs : Nat → Nat} {s : mjSt3} {a v w : Int32}
theorem owAsk_s (n5 : n ≤ 5) (h : owAsk n v = some o) : o ≤ 6 ∧ v = oR o ∧ ¬ v < -2 ∧ ¬ nI n ≤ v := by
  unfold owAsk at h
  by_cases h1 : v = -1
  · rw [if_pos h1] at h
    have e := Option.some.inj h
    rw [← e, h1]
    refine ⟨by decide, rfl, by decide, fun x => ?_⟩
    exact absurd (show nI n < 0 from Int32.lt_of_le_of_lt x (by decide)) (nI_pos (by omega))
  rw [if_neg h1] at h
  by_cases h2 : v = -2
  · rw [if_pos h2] at h
    have e := Option.some.inj h
    rw [← e, h2]
    refine ⟨by decide, rfl, by decide, fun x => ?_⟩
    exact absurd (show nI n < 0 from Int32.lt_of_le_of_lt x (by decide)) (nI_pos (by omega))
  rw [if_neg h2] at h
  by_cases h3 : v < 0
  · rw [if_pos h3] at h; cases h
  rw [if_neg h3] at h
  by_cases h4 : nI n ≤ v
  · rw [if_pos h4] at h; cases h
  rw [if_neg h4] at h
  have e := Option.some.inj h
  obtain ⟨x, x31, ex⟩ := nI_of h3
  rw [ex, nN_nI (by omega)] at e
  rw [ex] at h4
  have xl := (nI_ltI (by omega) (by omega)).mp (Int32.not_le.mp h4)
  refine ⟨by omega, ?_, fun y => ?_, by rw [ex]; exact h4⟩
  · rw [ex, ← e]
    unfold oR
    rw [if_neg (by omega), if_neg (by omega)]
  · rw [ex] at y
    exact absurd (show nI x < 0 from Int32.lt_trans y (by decide)) (nI_pos (by omega))
theorem owAsk_n (h : owAsk n v = none) : v < -2 ∨ nI n ≤ v := by
  unfold owAsk at h
  by_cases h1 : v = -1
  · rw [if_pos h1] at h; cases h
  rw [if_neg h1] at h
  by_cases h2 : v = -2
  · rw [if_pos h2] at h; cases h
  rw [if_neg h2] at h
  by_cases h3 : v < 0
  · left
    rw [Int32.lt_iff_toInt_lt] at h3 ⊢
    have e1 : (-2 : Int32).toInt = -2 := by decide
    have e2 : (0 : Int32).toInt = 0 := by decide
    have n1 : ¬ v.toInt = -1 := fun e => h1 (Int32.toInt_inj.mp (by rw [e]; decide))
    have n2 : ¬ v.toInt = -2 := fun e => h2 (Int32.toInt_inj.mp (by rw [e]; decide))
    rw [e1]
    rw [e2] at h3
    omega
  rw [if_neg h3] at h
  by_cases h4 : nI n ≤ v
  · exact Or.inr h4
  · rw [if_neg h4] at h; cases h
theorem x_209 (hq : isP q) (e6 : s.2.2 0 6 = q) (k16 : k < 16) (e1 : s.1 (q + 1) k = nI n) : mjF (d + 1) 209 [.ref 0, .int (nI k), .int v] (mjW0 s) = some (some (.int (match owAsk n v with
    | some o => nI o
    | none => -1)), mjW0 s) := by
  rw [e_209]
  unfold f_209 b_209_0 b_209_37 owAsk
  by_cases h1 : v = -1
  · rw [if_pos h1, if_pos h1]; rfl
  rw [if_neg h1, if_neg h1]
  by_cases h2 : v = -2
  · rw [if_pos h2, if_pos h2]; rfl
  rw [if_neg h2, if_neg h2]
  by_cases h3 : v < 0
  · rw [if_pos h3, if_pos h3]
  rw [if_neg h3, if_neg h3, xg_0_6, e6, yg_1 hq, wya_1 hq k16, e1]
  by_cases h4 : nI n ≤ v
  · rw [if_pos h4, if_pos h4]
  · rw [if_neg h4, if_neg h4]
    obtain ⟨x, x31, ex⟩ := nI_of h3
    show _ = some (some (Value.int (nI (nN v))), mjW0 s)
    rw [ex, nN_nI (by omega)]
theorem pair_isIn (I : Inv i s) (a v w : Int32) : PairOK (Inv (i + 1)) 208 339 [.int a, .int v, .int w] s := by
  have J : Inv (i + 1) s := I.mono (by omega)
  rcases I.2 with ⟨a1, a2, a3⟩ | ⟨T, N, b, q, t, rs, kb, z, tr, cs, G, hR⟩
  · refine ⟨0, s, s, ?_, ?_, J⟩
    · rw [e_208 (d := 1998)]
      unfold f_208 b_208_0 b_208_22
      rw [xg_0_8, a1, if_pos rfl]
    · rw [e_339 (d := 1998)]
      unfold f_339 b_339_0
      rw [xV_97, x_338n (d := 1997) a2, bI_s, if_pos rfl]
  · have hb := G.1.1
    have e8 := G.1.2.2.2.2
    have e6 := G.1.2.2.2.1
    have e9 := G.1.2.1
    obtain ⟨⟨g1, g2, g3, g4⟩, ⟨g5, g6, g7⟩, ⟨g8, g9, g10⟩, ⟨g11, g12⟩, g13, _⟩ := id G.2.2.2.1
    have hq : isP q := g1
    obtain ⟨_, rf, wit, _⟩ := G.ref
    have x338 := x_338 (d := 1997) (a := a) G
    by_cases hr : a < 0 ∨ nI t.1.length ≤ a
    · rw [if_pos hr] at x338
      refine ⟨0, s, s, ?_, ?_, J⟩
      · rw [e_208 (d := 1998)]
        unfold f_208 b_208_0 b_208_22
        rw [xg_0_8, e8, if_neg (show ¬ ((1 : Int32) = 0) by decide)]
        by_cases h1 : a < 0
        · rw [if_pos h1]
        · rw [if_neg h1, xg_0_6, e6, yg_0 hq, g3, if_neg (Int32.not_lt.mpr (hr.resolve_left h1))]
      · rw [e_339 (d := 1998)]
        unfold f_339 b_339_0
        rw [xV_97, x338, bI_s, if_pos rfl]
    · rw [if_neg hr] at x338
      have a0 : ¬ a < 0 := fun x => hr (Or.inl x)
      have al : a < nI t.1.length := Int32.not_le.mp (fun x => hr (Or.inr x))
      obtain ⟨k, k31, ek⟩ := nI_of a0
      rw [ek] at al
      have kl : k < t.1.length := (nI_ltI (by omega) (by omega)).mp al
      obtain ⟨r1, _⟩ := rf k kl
      obtain ⟨p1, p2⟩ := g2 k (by omega)
      have pc : mjF 1999 208 [.ref 0, .int a, .int v, .int w] (mjW0 s) = (f_208 (mjF 1998) 0 (nI k) v w (mjW0 s)) := by rw [ek]; exact e_208 (d := 1998)
      have pr : mjF 1999 339 [.ref 97, .int a, .int v, .int w] (mjW0 s) = (f_339 (mjF 1998) 97 (nI k) v w (mjW0 s)) := by rw [ek]; exact e_339 (d := 1998)
      rw [ek] at x338 a0
      have y1 := x_209 (d := 1997) (v := v) hq e6 (show k < 16 by omega) p1
      have y2 := x_209 (d := 1997) (v := w) hq e6 (show k < 16 by omega) p1
      unfold f_208 b_208_0 b_208_22 b_208_71 at pc
      rw [xg_0_8, e8, if_neg (show ¬ ((1 : Int32) = 0) by decide), if_neg a0, xg_0_6, e6, yg_0 hq, g3, if_pos al, xV_0, y1, bI_s, xV_0, y2, bI_s] at pc
      unfold f_339 b_339_0 b_339_55 at pr
      rw [xV_97, x338, bI_s, if_neg (show ¬ ((1 : Int32) = 0) by decide), xg_97_9, e9, bix] at pr
      have rno : (v < -2 ∨ w < -2 ∨ nI (nmL t.1 k) ≤ v ∨ nI (nmL t.1 k) ≤ w) → mjF 1999 339 [.ref 97, .int a, .int v, .int w] (mjW0 s) = some (some (.int 0), mjW0 s) := by
        intro h
        rw [pr]
        by_cases h1 : v < -2
        · rw [if_pos h1]
        rw [if_neg h1]
        by_cases h2 : w < -2
        · rw [if_pos h2]
        rw [if_neg h2, xg_97_15, wa_104 (by omega), r1]
        by_cases h3 : nI (nmL t.1 k) ≤ v
        · rw [if_pos h3]
        rw [if_neg h3, xg_97_15, wa_104 (by omega), r1, if_neg (Int32.not_lt.mpr (((h.resolve_left h1).resolve_left h2).resolve_left h3))]
      cases h1 : owAsk (nmL t.1 k) v with
      | none =>
        rw [h1] at pc
        refine ⟨0, s, s, ?_, rno (by rcases owAsk_n h1 with x | x; exact Or.inl x; exact Or.inr (Or.inr (Or.inl x))), J⟩
        rw [pc]
        exact if_pos rfl
      | some o1 =>
        obtain ⟨q1, q2, q3, q4⟩ := owAsk_s p2 h1
        rw [h1] at pc
        dsimp only at pc
        rw [if_neg (nI_m1 (show o1 < 2 ^ 31 by omega))] at pc
        cases h2 : owAsk (nmL t.1 k) w with
        | none =>
          rw [h2] at pc
          refine ⟨0, s, s, ?_, rno (by rcases owAsk_n h2 with x | x; exact Or.inr (Or.inl x); exact Or.inr (Or.inr (Or.inr x))), J⟩
          rw [pc]
          exact if_pos rfl
        | some o2 =>
          obtain ⟨u1, u2, u3, u4⟩ := owAsk_s p2 h2
          rw [h2] at pc
          dsimp only at pc
          have kn := x_known (d := 1997) (h := some k) (a := o1) (b := o2) hq g10 (fun c hc => by cases hc; omega) (by omega) (by omega)
          have kn' : mjF 1998 107 [.ref q, .int (nI k), .int (nI o1), .int (nI o2)] (mjW0 s) = some (some (.int (b2 (knF T t.1 k o1 o2))), mjW0 s) := kn
          refine ⟨b2 (knF T t.1 k o1 o2), s, s, ?_, ?_, J⟩
          · rw [pc, if_neg (nI_m1 (show o2 < 2 ^ 31 by omega)), xg_0_6, e6, yV hq, kn', bI_s]
            cases knF T t.1 k o1 o2 <;> first | rfl | (rw [if_pos (b2_nar _)])
          · have w1 := wit k kl o1 (by omega) o2 (by omega)
            have ix : (49 : Int32) * nI (16 * b + k) + (7 : Int32) * nI (rwR o1) + nI (rwR o2) = nI (49 * (16 * b + k) + 7 * rwR o1 + rwR o2) := by rw [show (49 : Int32) = nI 49 from rfl, show (7 : Int32) = nI 7 from rfl, nI_mul, nI_mul, nI_add, nI_add]
            have rb : ∀ o, o ≤ 6 → rwR o ≤ 6 := fun o ho => by unfold rwR; split <;> (try split) <;> omega
            have b1 := rb o1 q1
            have b2' := rb o2 u1
            rw [pr, if_neg q3, if_neg u3, xg_97_15, wa_104 (by omega), r1, if_neg q4, xg_97_15, wa_104 (by omega), r1, if_pos (Int32.not_le.mp u4), xg_97_30, q2, x_312 (d := 1997) q1, bI_s, u2, x_312 (d := 1997) u1, bI_s, ix, wa_119 (by omega), w1]
            cases knF T t.1 k o1 o2 <;> first | rfl | (rw [if_pos (b2_nar _)])
end MJB85
