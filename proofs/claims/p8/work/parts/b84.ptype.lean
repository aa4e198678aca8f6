/-! ===== type, isIn, on both ===== -/
section MJB84
variable {T : TT} {d N b kb q i c : Nat} {t : PT} {rs : List RcM} {z : PB} {tr : Bool} {cs : Nat → Nat} {s : mjSt3} {a v w : Int32}
/-- what the reference's rows hold of the program -/
theorem IPG.ref (G : IPG T N b q t rs kb z tr cs s) : s.1 100 b = nI t.1.length ∧ (∀ c, c < t.1.length → s.1 104 (16 * b + c) = nI (nmL t.1 c) ∧ s.1 102 (16 * b + c) = (T (hC t.1 c).1).2.1 ∧ s.1 106 (16 * b + c) = nI (inL t.1 c) ∧ s.1 109 (16 * b + c) = nI (fldT T t.1 c) ∧ s.1 110 (16 * b + c) = nI (mthL t.1 c) ∧ ABr T t.1 b s c) ∧ WIT b s t.1.length (knF T t.1) ∧ (∀ m, m < nMem t.1 → s.1 124 (400 * b + m) = nI (16 * b + hmM t.1 m) ∧ s.1 130 (400 * b + m) = nI (numM T t.1 m)) ∧ ∀ c, c < t.1.length → ∀ m, m < nMem t.1 → mSM t.1 m = false → (vwT (nmL t.1) (abT T t.1) c (hmM t.1 m)).isSome = true → s.1 184 (400 * (16 * b + c) + numM T t.1 m) = b2 (decide (2 ≤ tyM T t.1 m)) := by
  obtain ⟨s2, J, e1, e2, _⟩ := G.2.2.1.jbi G.2.1.2.2.2
  obtain ⟨⟨⟨RJ', W, _, _⟩, Q, Pl⟩, _, _⟩ := J
  refine ⟨by rw [← e1 100 (by decide)]; exact RJ'.2.1.1, fun c hc => ?_, ?_, fun m hm => ?_, fun c hc m hm ms vm => by rw [← e1 184 (by decide)]; exact Pl.2.2 c hc m hm ms vm⟩
  · have hd := RJ'.hd hc
    refine ⟨by rw [← e1 104 (by decide)]; exact hd.2.2.1.1, by rw [← e1 102 (by decide)]; exact hd.2.1, by rw [← e1 106 (by decide)]; exact hd.2.2.2.2.2.1.1, by rw [← e1 109 (by decide)]; exact (Pl.1 c hc).1, by rw [← e1 110 (by decide)]; exact (Pl.1 c hc).2, (Q.2 c hc).cg (e1 105 (by decide)).symm (e1 138 (by decide)).symm (e1 139 (by decide)).symm (e1 142 (by decide)).symm⟩
  · unfold WIT at W ⊢
    rw [← e1 119 (by decide)]
    exact W
  · rw [← e1 124 (by decide), ← e1 130 (by decide)]
    exact ⟨(RJ'.mem hm).1.1.1, Pl.2.1 m hm⟩
theorem bix (b k : Nat) : (16 : Int32) * nI b + nI k = nI (16 * b + k) := by rw [show (16 : Int32) = nI 16 from rfl, nI_mul, nI_add]
/-- isClass of the reference -/
theorem x_338n (h : s.1 97 10 = 0) : mjF (d + 1) 338 [.ref 97, .int a] (mjW0 s) = some (some (.int 0), mjW0 s) := by
  rw [e_338]
  unfold f_338 b_338_0 b_338_28
  rw [xg_97_10, if_pos h]
theorem x_338 (G : IPG T N b q t rs kb z tr cs s) : mjF (d + 1) 338 [.ref 97, .int a] (mjW0 s) = some (some (.int (if a < 0 ∨ nI t.1.length ≤ a then 0 else 1)), mjW0 s) := by
  rw [e_338]
  unfold f_338 b_338_0 b_338_28
  rw [xg_97_10, G.1.2.2.1, if_neg (show ¬ ((1 : Int32) = 0) by decide)]
  by_cases h1 : a < 0
  · rw [if_pos h1, if_pos (Or.inl h1)]
  · have hb := G.1.1
    rw [if_neg h1, xg_97_11, xg_97_9, G.1.2.1, wa_100 (by omega), G.ref.1]
    by_cases h2 : nI t.1.length ≤ a
    · rw [if_pos h2, if_pos (Or.inr h2)]
    · rw [if_neg h2, if_neg (fun x => x.elim h1 h2)]
theorem pair_type (I : Inv i s) (a v : Int32) : PairOK (Inv (i + 1)) 207 337 [.int a, .int v] s := by
  have J : Inv (i + 1) s := I.mono (by omega)
  rcases I.2 with ⟨a1, a2, a3⟩ | ⟨T, N, b, q, t, rs, kb, z, tr, cs, G, hR⟩
  · refine ⟨-1, s, s, ?_, ?_, J⟩
    · rw [e_207 (d := 1998)]
      unfold f_207 b_207_0 b_207_22
      rw [xg_0_8, a1, if_pos rfl]
    · rw [e_337 (d := 1998)]
      unfold f_337 b_337_0
      rw [xV_97, x_338n (d := 1997) a2, bI_s, if_pos rfl]
  · have hb := G.1.1
    have e8 := G.1.2.2.2.2
    have e6 := G.1.2.2.2.1
    have e9 := G.1.2.1
    obtain ⟨⟨g1, g2, g3, g4⟩, ⟨g5, g6, g7⟩, ⟨g8, g9, g10⟩, ⟨g11, g12⟩, g13, _⟩ := id G.2.2.2.1
    have hq : isP q := g1
    have hn := G.2.1.1.1.1.1
    obtain ⟨_, rf, _⟩ := G.ref
    have x338 := x_338 (d := 1997) (a := a) G
    by_cases hr : a < 0 ∨ nI t.1.length ≤ a
    · rw [if_pos hr] at x338
      refine ⟨-1, s, s, ?_, ?_, J⟩
      · rw [e_207 (d := 1998)]
        unfold f_207 b_207_0 b_207_22
        rw [xg_0_8, e8, if_neg (show ¬ ((1 : Int32) = 0) by decide)]
        by_cases h1 : a < 0
        · rw [if_pos h1]
        · rw [if_neg h1, xg_0_6, e6, yg_0 hq, g3, if_neg (Int32.not_lt.mpr (hr.resolve_left h1))]
      · rw [e_337 (d := 1998)]
        unfold f_337 b_337_0
        rw [xV_97, x338, bI_s, if_pos rfl]
    · rw [if_neg hr] at x338
      have a0 : ¬ a < 0 := fun x => hr (Or.inl x)
      have al : a < nI t.1.length := Int32.not_le.mp (fun x => hr (Or.inr x))
      obtain ⟨k, k31, ek⟩ := nI_of a0
      rw [ek] at al
      have kl : k < t.1.length := (nI_ltI (by omega) (by omega)).mp al
      obtain ⟨r1, r2, r3, r4, r5, r6⟩ := rf k kl
      obtain ⟨c1, c2, c3, c4, _⟩ := g13 k kl
      have kab : ∀ x, abT T t.1 k = some x → x < 2 ^ 31 := fun x hx => by
        have := (ab_v hn kl hx).lt hn
        omega
      have ab := x_above (d := 1996) (c := k) (s := s) hq (by omega) (o := abT T t.1 k) (by rw [g5 k (by omega), if_pos kl]) kab
      have up := x_242 (d := 1997) hb (by omega) hn kl r6
      have pc : mjF 1999 207 [.ref 0, .int a, .int v] (mjW0 s) = (f_207 (mjF 1998) 0 (nI k) v (mjW0 s)) := by rw [ek]; exact e_207 (d := 1998)
      have pr : mjF 1999 337 [.ref 97, .int a, .int v] (mjW0 s) = (f_337 (mjF 1998) 97 (nI k) v (mjW0 s)) := by rw [ek]; exact e_337 (d := 1998)
      rw [ek] at x338 a0
      unfold f_207 b_207_0 b_207_22 at pc
      rw [xg_0_8, e8, if_neg (show ¬ ((1 : Int32) = 0) by decide), if_neg a0, xg_0_6, e6, yg_0 hq, g3, if_pos al] at pc
      unfold f_337 b_337_0 at pr
      rw [xV_97, x338, bI_s, if_neg (show ¬ ((1 : Int32) = 0) by decide), xg_97_9, e9, bix] at pr
      by_cases v0 : v = 0
      · refine ⟨nI (nmL t.1 k), s, s, ?_, ?_, J⟩
        · rw [pc, if_pos v0, xg_0_6, e6, yg_1 hq, wya_1 hq (by omega), (g2 k (by omega)).1]
        · rw [pr, if_pos v0, xg_97_15, wa_104 (by omega), r1]
      by_cases v1 : v = 1
      · refine ⟨oI ((abT T t.1 k).map cK), s, s, ?_, ?_, J⟩
        · rw [pc, if_neg v0, if_pos v1, xg_0_6, e6, yV hq, ab, bI_s]
        · rw [pr, if_neg v0, if_pos v1, xV_97, up, bI_s]
          show _ = some (some (Value.int (oI (upT T t.1 k))), mjW0 s)
          cases hu : upT T t.1 k with
          | none => rw [if_pos (show cR b none = -1 from rfl)]; rfl
          | some x =>
            have xl := up_lt hn kl hu
            rw [hu] at up
            rw [if_neg (show ¬ cR b (some x) = -1 from nI_m1 (show 16 * b + x < 2 ^ 31 by omega)), xV_97, up, bI_s, xg_97_9, e9, show (16 : Int32) * nI b = nI (16 * b) by rw [show (16 : Int32) = nI 16 from rfl, nI_mul], show cR b (some x) = nI (16 * b + x) from rfl, pk_sub (by omega), show 16 * b + x - 16 * b = x by omega]
            rfl
      by_cases v2 : v = 2
      · refine ⟨nI (fldT T t.1 k), s, s, ?_, ?_, J⟩
        · rw [pc, if_neg v0, if_neg v1, if_pos v2, xg_0_6, e6, yg_8 hq, wya_8 hq (by omega), g8 k kl]
        · rw [pr, if_neg v0, if_neg v1, if_pos v2, xg_97_20, wa_109 (by omega), r4]
      by_cases v3 : v = 3
      · refine ⟨nI (mthL t.1 k), s, s, ?_, ?_, J⟩
        · rw [pc, if_neg v0, if_neg v1, if_neg v2, if_pos v3, xg_0_6, e6, yg_6 hq, wya_6 hq (by omega), c2]
        · rw [pr, if_neg v0, if_neg v1, if_neg v2, if_pos v3, xg_97_21, wa_110 (by omega), r5]
      by_cases v4 : v = 4
      · refine ⟨nI (inL t.1 k), s, s, ?_, ?_, J⟩
        · rw [pc, if_neg v0, if_neg v1, if_neg v2, if_neg v3, if_pos v4, xg_0_6, e6, yg_3 hq, wya_3 hq (by omega), (g6 k (by omega)).1]
        · rw [pr, if_neg v0, if_neg v1, if_neg v2, if_neg v3, if_pos v4, xg_97_17, wa_106 (by omega), r3]
      by_cases v5 : v = 5
      · refine ⟨(T (hC t.1 k).1).2.1, s, s, ?_, ?_, J⟩
        · rw [pc, if_neg v0, if_neg v1, if_neg v2, if_neg v3, if_neg v4, if_pos v5, xg_0_6, e6, yg_2 hq, wya_2 hq (by omega), c1]
        · rw [pr, if_neg v0, if_neg v1, if_neg v2, if_neg v3, if_neg v4, if_pos v5, xg_97_13, wa_102 (by omega), r2]
      refine ⟨-1, s, s, ?_, ?_, J⟩
      · rw [pc, if_neg v0, if_neg v1, if_neg v2, if_neg v3, if_neg v4, if_neg v5]
      · rw [pr, if_neg v0, if_neg v1, if_neg v2, if_neg v3, if_neg v4, if_neg v5]
end MJB84
