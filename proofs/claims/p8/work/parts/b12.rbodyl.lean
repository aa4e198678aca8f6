/-! ===== the reference's judgeBody ===== -/
section MJB12
variable {d N b kq lo hi i0 : Nat} {ks zk : List Nat} {s s' : mjSt3} {E : EV} {os : List Row} {mm : Option Nat}
/-- the fields ahead of a BLOCK -/
theorem x_322w (R : mjR) (s : mjSt3) (l1 w : Int32) : ∃ s', b_322_21 R 97 l1 97 w (mjW0 s) = (if l1 = (-1 : Int32) then b_322_125 R 97 l1 (mjW0 s') else L_322_51 R mjN 97 l1 (0 : Int32) (mjW0 s')) ∧ oB0 s s' ∧ s'.1 97 132 = w ∧ s'.1 97 133 = s.1 97 133 ∧ s'.1 97 82 = 0 ∧ s'.1 97 87 = 0 ∧ s'.1 97 88 = 0 ∧ s'.1 97 92 = 0 := by
  obtain ⟨z1, g1⟩ : ∃ y, y = uI s 97 (upd (s.1 97) 132 w) := ⟨_, rfl⟩
  obtain ⟨z2, g2⟩ : ∃ y, y = uI z1 97 (upd (z1.1 97) 82 0) := ⟨_, rfl⟩
  obtain ⟨z3, g3⟩ : ∃ y, y = uI z2 97 (upd (z2.1 97) 87 0) := ⟨_, rfl⟩
  obtain ⟨z4, g4⟩ : ∃ y, y = uI z3 97 (upd (z3.1 97) 88 0) := ⟨_, rfl⟩
  obtain ⟨z5, g5⟩ : ∃ y, y = uI z4 97 (upd (z4.1 97) 92 0) := ⟨_, rfl⟩
  have v1 : ∀ j, z1.1 97 j = if j = 132 then w else s.1 97 j := fun j => by rw [g1, uI_same, upd_g]
  have v2 : ∀ j, z2.1 97 j = if j = 82 then 0 else z1.1 97 j := fun j => by rw [g2, uI_same, upd_g]
  have v3 : ∀ j, z3.1 97 j = if j = 87 then 0 else z2.1 97 j := fun j => by rw [g3, uI_same, upd_g]
  have v4 : ∀ j, z4.1 97 j = if j = 88 then 0 else z3.1 97 j := fun j => by rw [g4, uI_same, upd_g]
  have v5 : ∀ j, z5.1 97 j = if j = 92 then 0 else z4.1 97 j := fun j => by rw [g5, uI_same, upd_g]
  refine ⟨z5, ?_, ?_, ?_, ?_, ?_, ?_, ?_, ?_⟩
  · unfold b_322_21
    rw [xp_97_132, ← g1, xp_97_82, ← g2, xp_97_87, ← g3, xp_97_88, ← g4, xp_97_92, ← g5]
  · refine offG.tr (b := z1) (by rw [g1]; exact offG.w ⟨rfl, by omega⟩) (offG.tr (b := z2) (by rw [g2]; exact offG.w ⟨rfl, by omega⟩) (offG.tr (b := z3) (by rw [g3]; exact offG.w ⟨rfl, by omega⟩) (offG.tr (b := z4) (by rw [g4]; exact offG.w ⟨rfl, by omega⟩) (by rw [g5]; exact offG.w ⟨rfl, by omega⟩))))
  · rw [v5, if_neg (by decide), v4, if_neg (by decide), v3, if_neg (by decide), v2, if_neg (by decide), v1, if_pos rfl]
  · rw [v5, if_neg (by decide), v4, if_neg (by decide), v3, if_neg (by decide), v2, if_neg (by decide), v1, if_neg (by decide)]
  · rw [v5, if_neg (by decide), v4, if_neg (by decide), v3, if_neg (by decide), v2, if_pos rfl]
  · rw [v5, if_neg (by decide), v4, if_neg (by decide), v3, if_pos rfl]
  · rw [v5, if_neg (by decide), v4, if_pos rfl]
  · rw [v5, if_pos rfl]
theorem oB0.By {i en : Nat} (o : oB0 s s') : oBy b i en lo hi s s' := offG.mono o (fun h j x => by omega) (fun _ _ x => x.elim)
/-- judgeBody -/
theorem x_322 (F : FX E.1 N b ks E.2.1 E.2.2.1) (B : BK E.1 N b ks E.2.1 lo hi kq zk) (hkt : E.2.2.2.1 = ktL (800 * b) ks) (hlen : kq + zk.length ≤ 100000) (en5 : i0 + os.length < 5000) (S : BS E.1 N b ks E.2.1 E.2.2.1 s) (g : gR0 s) (M : MMo E b i0 s mm) (rows : ∀ (k : Nat) (r : Row), os[k]? = some r → Rw s (5000 * b + (i0 + k)) r) (last : s.1 143 (5000 * b + (i0 + os.length)) = 28 ∧ s.1 145 (5000 * b + (i0 + os.length)) = 0) (sc : sdW os i0 ((kq, 0, [], 0), (j0M E mm).2.2.2.1, i0 + os.length, false, 0)) (fd : (fdW os i0 ((kq, 0, [], 0), (j0M E mm).2.2.2.1, i0 + os.length, false, 0)).1.1 ≤ kq + zk.length) : ∃ s', mjF (d + 8) 322 [.ref 97, .int (mR b mm)] (mjW0 s) = some (none, mjW0 s') ∧ oBy b i0 (i0 + os.length) kq (kq + zk.length) s s' ∧ match jrun E os (j0M E mm) with
    | none => bR0 s'
    | some _ => gR0 s' ∧ BS E.1 N b ks E.2.1 E.2.2.1 s' ∧ JDG E b s' i0 os (j0M E mm) := by
  have hmj := mjN_v
  have hb := S.1.1.b1
  have m384 := S.1.1.n384
  obtain ⟨z0, g0⟩ : ∃ y, y = uI s 97 (upd (s.1 97) 133 (mR b mm)) := ⟨_, rfl⟩
  have f0 : z0.1 97 133 = mR b mm := by rw [g0, uI_same, upd_g, if_pos rfl]
  have o0 : oB0 s z0 := by rw [g0]; exact offG.w ⟨rfl, by omega⟩
  have S0 := oB0.S o0 S
  obtain ⟨z1, w1, o1, k132, k133, k82, k87, k88, k92⟩ := x_322w (mjF (d + 7)) z0 (mR b mm) (cR b E.2.2.2.2.1)
  have S1 := oB0.S o1 S0
  have o01 : oB0 s z1 := offG.tr o0 o1
  have g1 : gR0 z1 := (o01.1 97 61 (by omega)).trans g
  have rr : ∀ h, ¬ h = 97 → z1.1 h = s.1 h := fun h hh => o01.r hh
  have pre : mjF (d + 8) 322 [.ref 97, .int (mR b mm)] (mjW0 s) = b_322_21 (mjF (d + 7)) 97 (mR b mm) 97 (cR b E.2.2.2.2.1) (mjW0 z0) := by
    rw [e_322]
    unfold f_322 b_322_0
    rw [xp_97_133, ← g0]
    cases mm with
    | none => rw [if_pos (show mR b none = -1 from rfl), show E.2.2.2.2.1 = none from M.1]; rfl
    | some m =>
      have hm : m < nMem E.2.1 := M.1
      rw [if_neg (show ¬ mR b (some m) = -1 from nI_m1 (show 400 * b + m < 2 ^ 31 by omega)), xg_97_35, show mR b (some m) = nI (400 * b + m) from rfl, wa_124 (by omega), (S0.1.1.mem hm).1.1.1, show E.2.2.2.2.1 = some (hmM E.2.1 m) from M.2.1]
      rfl
  have W1 : NW E b mm z1 := by
    refine ⟨k132, k133.trans f0, ?_, ?_, ?_⟩
    · cases mm with
      | none => intro c hc; rw [show E.2.2.2.2.1 = none from M.1] at hc; cases hc
      | some m =>
        intro c hc
        rw [show E.2.2.2.2.1 = some (hmM E.2.1 m) from M.2.1] at hc
        cases hc
        exact (S.1.1.mem (show m < nMem E.2.1 from M.1)).2
    · intro m hm
      subst hm
      exact ⟨M.1, M.2.2.1⟩
    · intro hm
      subst hm
      exact M.2.1
  have Rw1 : ∀ (x : mjSt3), (∀ h, (143 ≤ h ∧ h ≤ 146) → x.1 h = s.1 h) → x.2.1 147 = s.2.1 147 → (∀ (k : Nat) (r : Row), os[k]? = some r → Rw x (5000 * b + (i0 + k)) r) ∧ (x.1 143 (5000 * b + (i0 + os.length)) = 28 ∧ x.1 145 (5000 * b + (i0 + os.length)) = 0) := by
    intro x e1 e2
    refine ⟨fun k r hk => ?_, ?_⟩
    · have := rows k r hk
      unfold Rw at this ⊢
      rw [e1 143 (by omega), e1 144 (by omega), e1 145 (by omega), e1 146 (by omega), e2]
      exact this
    · rw [e1 143 (by omega), e1 145 (by omega)]; exact last
  rw [pre, w1]
  cases mm with
  | none =>
    rw [if_pos (show mR b none = -1 from rfl)]
    obtain ⟨q1, q2⟩ := Rw1 z1 (fun h hh => rr h (by omega)) (by rw [o01.l])
    obtain ⟨s', a1, a2, a3⟩ := x_322b (d := d) (mm := none) (s := z1) (j := j0M E none) (td := 0) F B hkt hlen en5 S1 g1 W1 ⟨M.1, M.2.1, by rw [rr 123 (by decide)]; exact M.2.2⟩ rfl ⟨⟨k82, trivial, rfl, Nat.zero_le _⟩, ⟨k92, trivial, Nat.zero_le _⟩, ⟨⟨fun e he => (by cases he), fun v hv => absurd hv (Nat.not_lt_zero _), List.Pairwise.nil, fun v hv => absurd hv (Nat.not_lt_zero _), k87, Nat.zero_le _, fun h => by cases h⟩, rfl⟩, ⟨k88, rfl⟩, q2.2⟩ q1 q2 sc fd
    exact ⟨s', a1, offG.tr (oB0.By o01) (oJw.By a2), a3⟩
  | some m =>
    have hm : m < nMem E.2.1 := M.1
    rw [if_neg (show ¬ mR b (some m) = -1 from nI_m1 (show 400 * b + m < 2 ^ 31 by omega))]
    have p6 := (S.1.1.p6 hm).2
    obtain ⟨z2, c1, c2, c3, c4⟩ := lq_322p (mjF (d + 7)) hm (psM E.2.1 m).length 0 mjN z1 (by omega) (by omega) S1.1.1 k87 (fun v hv => by omega)
    have S2 := (oPa.V2 (k := 0) c2).S S1
    have g2 : gR0 z2 := (c2.1 97 61 (by omega)).trans g1
    have rr2 : ∀ h, ¬ h = 97 → ¬ (159 ≤ h ∧ h ≤ 161) → z2.1 h = s.1 h := fun h h1 h2 => (funext fun j => c2.1 h j (by omega)).trans (rr h h1)
    have W2 : NW E b (some m) z2 := ⟨(c2.1 97 132 (by omega)).trans W1.1, (c2.1 97 133 (by omega)).trans W1.2.1, W1.2.2⟩
    obtain ⟨q1, q2⟩ := Rw1 z2 (fun h hh => rr2 h (by omega) (by omega)) ((funext fun j => c2.2.1 147 j (show ¬ (147 : Nat) = 158 by decide)).trans (by rw [o01.l]))
    obtain ⟨s', a1, a2, a3⟩ := x_322b (d := d) (mm := some m) (s := z2) (j := j0M E (some m)) (td := (psM E.2.1 m).length) F B hkt hlen en5 S2 g2 W2 ⟨M.1, M.2.1, M.2.2.1, by rw [rr2 129 (by decide) (by decide)]; exact M.2.2.2⟩ rfl ⟨⟨(c2.1 97 82 (by omega)).trans k82, trivial, rfl, Nat.zero_le _⟩, ⟨(c2.1 97 92 (by omega)).trans k92, trivial, Nat.zero_le _⟩, ⟨VB_pars F B S2 hm c3 c4 (0, 0) 0, rfl⟩, ⟨(c2.1 97 88 (by omega)).trans k88, rfl⟩, q2.2⟩ q1 q2 sc fd
    refine ⟨s', ?_, offG.tr (oB0.By o01) (offG.tr (oPa.By c2) (oJw.By a2)), a3⟩
    rw [show mR b (some m) = nI (400 * b + m) from rfl]
    exact c1.trans a1
end MJB12
