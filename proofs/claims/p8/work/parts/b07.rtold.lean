/-! ===== the reference judges one order: TYPE NAME = E ===== -/
section MJB07
variable {T : TT} {d N b k t c n m v w p q kq Xe i lo hi X td : Nat} {ks zk : List Nat} {L : List CD} {s s' s'' s1 z : mjSt3} {tr : Bool} {E : EV} {j : JS} {x : WS} {r : Row} {u : mjU} {mm : Option Nat} {e : Nat × Bool} {st : List (Nat × Bool)} {a : Int32}
theorem j_19 (F : FX E.1 N b ks E.2.1 E.2.2.1) (B : BK E.1 N b ks E.2.1 lo hi kq zk) (hkt : E.2.2.2.1 = ktL (800 * b) ks) (S : BS E.1 N b ks E.2.1 E.2.2.1 s) (g : gR0 s) (W : NW E b mm s) (R : BR E.2.1 b s j x (kq + zk.length)) (row : Rw s (5000 * b + i) r) (hi : i < 5000) (hr : r.1 = 19) (pn : x.2.2.2.1 = false) (h16 : x.2.1 < 16) (hA : r.2.2.1 = -1 ∨ (¬ r.2.2.1 = -1 ∧ r.2.2.1 = nI x.1.1)) (hX2 : ¬ r.2.2.1 = -1 → x.1.1 < kq + zk.length) (hlen : kq + zk.length ≤ 100000) (hX1 : kq ≤ x.1.1) : gJ E N b ks i x.1.1 (kq + zk.length) r j x s (mjF (d + 7) 323 [.ref 97, .int (nI (5000 * b + i))] (mjW0 s)) := by
  have J := S.1.1
  have hn := J.2.2.2.2.2.1
  have hb := J.b1
  have h60 := R.1.2.2.2
  have hl := R.1.2.2.1
  have V := R.2.2.1.1
  have htd := R.2.2.1.2
  have nA' : nA E r j = r.2.2.1 := nA_o (by rw [hr]; decide) (by rw [hr]; decide) (by rw [hr]; decide) (by rw [hr]; decide) (by rw [hr]; decide) (by rw [hr]; decide)
  have hx : nxW r i x = ((if r.2.2.1 = -1 then x.1.1 else x.1.1 + 1, x.1.2), x.2.1, x.2.2.1, true, x.2.2.2.2) := by
    unfold nxW
    rw [hr, if_neg (by decide), if_neg (by decide), if_neg (by decide), if_neg (by decide), if_pos rfl]
  have hj : jrow E r j = match tyE E r.2.2.1 with
    | none => none
    | some t => if vsK j.2.2.1 r.2.2.2.2 = none then some ((j.1, j.2.1, j.2.2.1, j.2.2.2.1, j.2.2.2.2.1, (r.2.2.2.2, t), j.2.2.2.2.2.2), []) else none := by
    unfold jrow
    rw [hr, if_neg (by decide), if_neg (by decide), if_neg (by decide), if_neg (by decide), if_neg (by decide), if_neg (by decide), if_neg (by decide), if_neg (by decide), if_neg (by decide), if_neg (by decide), if_neg (by decide), if_neg (by decide), if_neg (by decide), if_neg (by decide), if_neg (by decide), if_neg (by decide), if_neg (by decide), if_pos rfl]
    cases tyE E r.2.2.1 <;> rfl
  have stp : ∃ s1, mjF (d + 5) 313 [.ref 97, .int r.2.2.1, .int (cR b E.2.2.2.2.1)] (mjW0 s) = some (none, mjW0 s1) ∧ oJd (5000 * b + i) x.1.1 (kq + zk.length) s s1 ∧ BS E.1 N b ks E.2.1 E.2.2.1 s1 ∧ GR s1 ∧ BR E.2.1 b s1 j ((if r.2.2.1 = -1 then x.1.1 else x.1.1 + 1, x.1.2), x.2) (kq + zk.length) ∧ (tyE E r.2.2.1 = none → bR0 s1) ∧ (∀ t, tyE E r.2.2.1 = some t → gR0 s1 ∧ TKr E.2.1 b s1 r.2.2.1 t) ∧ (∀ y, (if r.2.2.1 = -1 then x.1.1 else x.1.1 + 1) ≤ y → y < kq + zk.length → ¬ r.2.2.1 = nI y) ∧ (∀ h, ¬ h = 97 → ¬ h = 139 → ¬ h = 142 → s1.1 h = s.1 h) ∧ s1.2 = s.2 := by
    have len750 : kq + zk.length ≤ 100000 := hlen
    rcases hA with hA | ⟨hA1, hA2⟩
    · refine ⟨s, ?_, offG.rf, S, Or.inl g, ?_, fun h => ?_, fun t h => ?_, fun y _ hy => ?_, fun _ _ _ _ => rfl, rfl⟩
      · rw [hA, e_313]
        unfold f_313 b_313_0
        rw [if_neg (by decide)]
      · rw [if_pos hA]; exact R
      · unfold tyE at h
        rw [if_pos hA] at h
        cases h
      · unfold tyE at h
        rw [if_pos hA] at h
        cases h
        exact ⟨g, hA⟩
      · rw [hA]
        exact fun e => nI_m1 (by omega) e.symm
    · obtain ⟨X16, s1, a1, a2, a3, a4, a5, a6⟩ := kindS (d := d + 1) F B hkt S g W hX1 (hX2 hA1)
      have ety : tyE E r.2.2.1 = (kdE E (nI x.1.1)).map (· + 2) := by
        unfold tyE
        rw [if_neg hA1, hA2]
      refine ⟨s1, by rw [hA2]; exact a1, oTy.J3 a2 (Nat.le_refl _) (hX2 hA1) X16, a3, a4, ?_, fun h => ?_, fun t h => ?_, fun y h1 h2 => ?_, fun h h1 h2 h3 => a2.r h1 h2 h3, a2.l⟩
      · rw [if_neg hA1]; exact BR.ty hn R (hX2 hA1) a2
      · rw [ety] at h
        cases hk : kdE E (nI x.1.1) with
        | none => exact a5 hk
        | some k => rw [hk] at h; cases h
      · rw [ety] at h
        cases hk : kdE E (nI x.1.1) with
        | none => rw [hk] at h; cases h
        | some k =>
          rw [hk] at h
          have e1 : k + 2 = t := Option.some.inj h
          rw [hA2, ← e1]
          exact a6 k hk
      · rw [if_neg hA1] at h1
        rw [hA2]
        exact fun e => by
          have := (nI_eq (by omega) (by omega)).mp e
          omega
  obtain ⟨s1, a1, oj, S1, G1, R1, b1, b2', b3, rr, ll⟩ := stp
  have V1 := R1.2.2.1.1
  have V1' : VB E.2.1 b s1 j.2.2.1 j.2.2.2.1 x.2.2.2.1 j.2.2.2.2.2.1 j.2.2.2.2.1 (if r.2.2.1 = -1 then x.1.1 else x.1.1 + 1) (kq + zk.length) := V1
  rw [pn] at V1'
  have u5 := V1'.2.2.2.2.1
  rw [if_neg (show ¬ false = true by decide), Nat.add_zero] at u5
  have t16 : j.2.2.2.1 < 16 := by rw [htd]; exact h16
  have c4 : s1.1 144 (5000 * b + i) = r.2.1 := by rw [rr 144 (by decide) (by decide) (by decide)]; exact row.2.1
  have c5 : s1.1 145 (5000 * b + i) = r.2.2.1 := by rw [rr 145 (by decide) (by decide) (by decide)]; exact row.2.2.1
  have c7 : s1.2.1 147 (5000 * b + i) = r.2.2.2.2 := by rw [ll]; exact row.2.2.2.2
  have pre : mjF (d + 7) 323 [.ref 97, .int (nI (5000 * b + i))] (mjW0 s) = bN (if s1.1 97 61 = 0 then (if vN (vsK j.2.2.1 r.2.2.2.2) = -1 then b_335_184 (mjF (d + 5)) 97 (nI (5000 * b + i)) (mjW0 s1) else bN (mjF (d + 5) 268 [.ref 97, .int 4, .int r.2.1] (mjW0 s1)) (fun hp17 => b_335_184 (mjF (d + 5)) 97 (nI (5000 * b + i)) hp17)) else b_335_184 (mjF (d + 5)) 97 (nI (5000 * b + i)) (mjW0 s1)) (fun hp1 => some (none, hp1)) := by
    rw [e_323]
    unfold f_323 b_323_0 b_323_517
    rw [xg_97_54, wa_143 (by omega), row.1, hr, if_neg (by decide), if_neg (by decide), if_neg (by decide), if_neg (by decide), if_neg (by decide), if_neg (by decide), if_neg (by decide), if_neg (by decide), if_neg (by decide), if_neg (by decide), if_neg (by decide), if_neg (by decide), if_neg (by decide), if_neg (by decide), if_neg (by decide), if_neg (by decide), if_pos rfl, xV_97, e_335]
    unfold f_335 b_335_0
    rw [xg_97_54, wa_143 (by omega), row.1, hr, if_neg (by decide), if_neg (by decide), if_pos rfl, xg_97_56, wa_145 (by omega), row.2.2.1, xg_97_132, W.1, xV_97, a1, bN_s, xg_97_61, xg_97_58, wa_147 (by omega), c7, xV_97, x_325 (d := d + 4) V1', bI_s, xg_97_55, wa_144 (by omega), c4, xV_97]
  have ovd : ∀ {z y : mjSt3}, (∀ h, ¬ h = 97 → ¬ (159 ≤ h ∧ h ≤ 161) → y.1 h = z.1 h) → (∀ a, ¬ a = 87 → y.1 97 a = z.1 97 a) → (∀ h, ¬ h = 158 → y.2.1 h = z.2.1 h) → y.2.2 = z.2.2 → oV (5000 * b + i) z y := fun h1 h2 h3 h4 => ⟨fun h a hh => by
    by_cases e1 : h = 97
    · subst e1; exact h2 a (by omega)
    · rw [h1 h e1 (by omega)], fun h a hh => by rw [h3 h hh], h4⟩
  cases hty : tyE E r.2.2.1 with
  | none =>
    rw [hty] at hj
    have g1 := b1 hty
    obtain ⟨s2, d1, d2, d3, d4, d5, d6, d7, d8, d9, d10, d11⟩ := x_decl (mjF (d + 5)) (k := 5000 * b + i) u5 t16 (by omega)
    rw [if_neg g1.ng, d1, bN_s] at pre
    exact ⟨s2, pre, offG.tr oj (oV.J2 (ovd d2 d3 d4 d11)), by rw [hj]; show ¬ s2.1 97 61 ≤ 0; rw [d3 61 (by decide)]; exact g1⟩
  | some t =>
    rw [hty] at hj
    obtain ⟨g1, K1⟩ := b2' t hty
    rw [if_pos (show s1.1 97 61 = 0 from g1)] at pre
    dsimp only at hj
    cases hv : vsK j.2.2.1 r.2.2.2.2 with
    | some f =>
      rw [hv] at pre
      rw [if_neg (fun h => by rw [hv] at h; cases h)] at hj
      have f16 := V1'.2.2.2.2.2.1
      have f1 := (V1'.1 f (vsK_mem hv).1).1
      obtain ⟨s2, e1, e2, e3⟩ := x_268 (d := d + 4) (s := s1) (Or.inl g1) (a := 4) (by decide) r.2.1
      obtain ⟨s3, d1, d2, d3, d4, d5, d6, d7, d8, d9, d10, d11⟩ := x_decl (mjF (d + 5)) (z := s2) (k := 5000 * b + i) (by rw [e2.1 97 87 (by omega)]; exact u5) t16 (by omega)
      rw [if_neg (show ¬ vN (some f) = -1 from nI_m1 (by omega)), e1, bN_s, d1, bN_s] at pre
      exact ⟨s3, pre, offG.tr oj (offG.tr (oV.J2 (o61.V e2)) (oV.J2 (ovd d2 d3 d4 d11))), by rw [hj]; show ¬ s3.1 97 61 ≤ 0; rw [d3 61 (by decide)]; exact e3⟩
    | none =>
      rw [hv] at pre
      rw [if_pos hv] at hj
      obtain ⟨s2, d1, d2, d3, d4, d5, d6, d7, d8, d9, d10, d11⟩ := x_decl (mjF (d + 5)) (z := s1) (k := 5000 * b + i) u5 t16 (by omega)
      rw [if_pos (show vN none = -1 from rfl), d1, bN_s] at pre
      have o2 : oV (5000 * b + i) s1 s2 := ovd d2 d3 d4 d11
      refine ⟨s2, pre, offG.tr oj (oV.J2 o2), ?_⟩
      rw [hj]
      refine ⟨by show s2.1 97 61 = 0; rw [d3 61 (by decide)]; exact g1, o2.S S1, ?_, ?_, fun h => ?_⟩
      · rw [hx]
        obtain ⟨⟨t1, t2, t3, t4⟩, ⟨c1, c2, c3⟩, _, ⟨e1, e2⟩, lf⟩ := R1
        obtain ⟨u1, u2, u3, u4, _, u6, u7⟩ := V1'
        rw [if_neg (show ¬ false = true by decide), Nat.add_zero] at u4 u6
        have kk : ∀ {ti : Int32} {ty : Nat}, TKr E.2.1 b s1 ti ty → TKr E.2.1 b s2 ti ty := fun h => h.cg (d2 138 (by decide) (by omega)) (d2 139 (by decide) (by omega)) (d2 142 (by decide) (by omega))
        refine ⟨⟨by rw [d3 82 (by decide)]; exact t1, TSs.same hn t2 (d2 _ (by decide) (by omega)) (d2 _ (by decide) (by omega)) (d2 _ (by decide) (by omega)), t3, t4⟩, ⟨by rw [d3 92 (by decide)]; exact c1, PDs.same hn c2 (d2 _ (by decide) (by omega)) (d2 _ (by decide) (by omega)), c3⟩, ⟨⟨fun f hf => ?_, fun y hy => ?_, u3, fun y hy => ?_, ?_, ?_, fun _ => ?_⟩, htd⟩, ⟨by rw [d3 88 (by decide)]; exact e1, e2⟩, by rw [d2 145 (by decide) (by omega)]; exact lf⟩
        · obtain ⟨w1, w2, w3, w4, w5, w6⟩ := u1 f hf
          obtain ⟨y1, y2, y3, y4⟩ := d5 f.2.2.1 (by omega)
          exact ⟨w1, by rw [y1]; exact w2, by rw [y2]; exact kk w3, by rw [y3]; exact w4, by rw [y4]; exact w5, w6⟩
        · obtain ⟨y1, y2, y3, y4⟩ := d5 y (by have : y < j.2.2.2.1 := hy; omega)
          rw [y4]
          exact u2 y hy
        · have hy' : y < j.2.2.2.1 + 1 := hy
          by_cases ey : y = j.2.2.2.1
          · intro k h1 h2
            rw [ey, d8, c5]
            exact b3 k h1 h2
          · rw [(d5 y ey).2.1]
            exact u4 y (by omega)
        · exact d6
        · show j.2.2.2.1 + 1 ≤ 16
          omega
        · exact ⟨by rw [d7]; exact c7, by rw [d8, c5]; exact kk K1, by rw [d9]; exact e1, d10⟩
      · rw [d2 145 (by decide) (by omega), c5, nA']
      · exact absurd h (by rw [hr]; decide)
end MJB07
