/-! ===== the Coder: E ; and LEFT = E ; ===== -/
theorem pPost_s1 {T : TT} {ra : Nat → Nat → PX} {kq : Nat} : ∀ (k : Nat) (z y : PZ), pPost T ra kq k z = .inr y → y = z ∨ ¬ y.2.1 = 1
  | 0, z, y, h => by cases h; exact Or.inl rfl
  | k + 1, z, y, h => by
    unfold pPost at h
    by_cases g : (T z.1).1 = 20
    · rw [if_pos g] at h
      cases hd : pKind T (z.1 + 1) with
      | inl e => rw [hd] at h; cases h
      | inr c' =>
        rw [hd] at h
        rcases pPost_s1 k _ y h with e | e
        · rw [e]; exact Or.inr (fun x => by cases x)
        · exact Or.inr e
    · rw [if_neg g] at h
      by_cases g2 : (T z.1).1 = 46
      · rw [if_pos g2] at h
        by_cases g3 : (T (z.1 + 1)).1 = 3
        · rw [if_pos g3] at h
          by_cases g4 : (T (z.1 + 2)).1 = 40
          · rw [if_pos g4] at h
            cases hd : ra (z.1 + 2) (kq + z.2.2.1.length) with
            | inl e => rw [hd] at h; cases h
            | inr x =>
              rw [hd] at h
              rcases pPost_s1 k _ y h with e | e
              · rw [e]; exact Or.inr (fun x => by cases x)
              · exact Or.inr e
          · rw [if_neg g4] at h
            rcases pPost_s1 k _ y h with e | e
            · rw [e]; exact Or.inr (fun x => by cases x)
            · exact Or.inr e
        · rw [if_neg g3] at h; cases h
      · rw [if_neg g2] at h
        cases h
        exact Or.inl rfl
/-- an E that is a NAME alone -/
theorem prE_s1 {T : TT} {M : Nat} : ∀ (f tag o c kq : Nat) (y : PZ), tag ≤ 5 → prE T M f tag o c kq = .inr y → y.2.1 = 1 → (T c).1 = 3 ∧ y = (c + 1, 1, [], [(6, (T c).2.1, 0, 0, (T c).2.2.1)], [])
  | 0, _, _, _, _, _, _, h, _ => by cases h
  | f + 1, 0, o, c, kq, y, _, h, h1 => by
    rw [prE_0] at h
    cases hd : prE T M f 1 o c kq with
    | inl e => rw [hd] at h; cases h
    | inr z =>
      rw [hd] at h
      dsimp only at h
      by_cases g : isCmp (T z.1).1 = true
      · rw [if_pos g] at h
        cases hd2 : prE T M f 1 o (z.1 + 1) (kq + z.2.2.1.length) with
        | inl e => rw [hd2] at h; cases h
        | inr x => rw [hd2] at h; cases h; cases h1
      · rw [if_neg g] at h
        cases h
        exact prE_s1 f 1 o c kq y (by omega) hd h1
  | f + 1, 1, o, c, kq, y, _, h, h1 => by
    rw [prE_1] at h
    cases hd : prE T M f 2 o c kq with
    | inl e => rw [hd] at h; cases h
    | inr z =>
      rw [hd] at h
      rcases pLoop_s0 _ _ _ h with e | e
      · subst e; exact prE_s1 f 2 o c kq y (by omega) hd h1
      · rw [h1] at e; cases e
  | f + 1, 2, o, c, kq, y, _, h, h1 => by
    rw [prE_2] at h
    cases hd : prE T M f 3 o c kq with
    | inl e => rw [hd] at h; cases h
    | inr z =>
      rw [hd] at h
      rcases pLoop_s0 _ _ _ h with e | e
      · subst e; exact prE_s1 f 3 o c kq y (by omega) hd h1
      · rw [h1] at e; cases e
  | f + 1, 3, o, c, kq, y, _, h, h1 => by
    rw [prE_3] at h
    by_cases e45 : (T c).1 = 45
    · rw [if_pos e45] at h
      by_cases o12 : o = 12
      · rw [if_pos o12] at h; cases h
      rw [if_neg o12] at h
      cases hd : prE T M f 3 (o + 1) (c + 1) kq with
      | inl e => rw [hd] at h; cases h
      | inr x => rw [hd] at h; cases h; cases h1
    · rw [if_neg e45] at h
      exact prE_s1 f 4 o c kq y (by omega) h h1
  | f + 1, 4, o, c, kq, y, _, h, h1 => by
    rw [prE_4] at h
    cases hd : prE T M f 5 o c kq with
    | inl e => rw [hd] at h; cases h
    | inr z =>
      rw [hd] at h
      rcases pPost_s1 _ _ _ h with e | e
      · subst e; exact prE_s1 f 5 o c kq y (by omega) hd h1
      · exact absurd h1 e
  | f + 1, 5, o, c, kq, y, _, h, h1 => by
    rw [prE_5] at h
    unfold pAtom at h
    by_cases e3 : (T c).1 = 3
    · rw [if_pos e3] at h; cases h; exact ⟨e3, rfl⟩
    rw [if_neg e3] at h
    by_cases e4 : (T c).1 = 4
    · rw [if_pos e4] at h; cases h; cases h1
    rw [if_neg e4] at h
    by_cases e11 : (T c).1 = 11
    · rw [if_pos e11] at h; cases h; cases h1
    rw [if_neg e11] at h
    by_cases e12 : (T c).1 = 12
    · rw [if_pos e12] at h; cases h; cases h1
    rw [if_neg e12] at h
    by_cases e14 : (T c).1 = 14
    · rw [if_pos e14] at h
      cases hp : pKind T (c + 1) with
      | inl x => rw [hp] at h; cases h
      | inr c' => rw [hp] at h; cases h; cases h1
    rw [if_neg e14] at h
    by_cases e40 : (T c).1 = 40
    · rw [if_pos e40] at h
      by_cases o12 : o = 12
      · rw [if_pos o12] at h; cases h
      rw [if_neg o12] at h
      cases hp : prE T M f 0 (o + 1) (c + 1) kq with
      | inl x => rw [hp] at h; cases h
      | inr y =>
        rw [hp] at h
        dsimp only at h
        by_cases g : (T y.1).1 = 41
        · rw [if_pos g] at h; cases h; cases h1
        · rw [if_neg g] at h; cases h
    · rw [if_neg e40] at h; cases h
  | f + 1, t + 6, o, c, kq, y, ht, h, h1 => by omega
/-- NAME = : the E is the NAME alone -/
theorem prE_61 {T : TT} {M : Nat} {c : Nat} (h3 : (T c).1 = 3) (h61 : (T (c + 1)).1 = 61) : ∀ (f tag o kq : Nat) (y : PZ), tag ≤ 5 → prE T M f tag o c kq = .inr y → y.1 = c + 1 ∧ y.2.1 = 1
  | 0, _, _, _, _, _, h => by cases h
  | f + 1, 0, o, kq, y, _, h => by
    rw [prE_0] at h
    cases hd : prE T M f 1 o c kq with
    | inl e => rw [hd] at h; cases h
    | inr z =>
      rw [hd] at h
      dsimp only at h
      have := prE_61 h3 h61 f 1 o kq z (by omega) hd
      rw [if_neg (by rw [this.1, h61]; decide)] at h
      cases h
      exact this
  | f + 1, 1, o, kq, y, _, h => by
    rw [prE_1] at h
    cases hd : prE T M f 2 o c kq with
    | inl e => rw [hd] at h; cases h
    | inr z =>
      rw [hd] at h
      have := prE_61 h3 h61 f 2 o kq z (by omega) hd
      rw [pLoop_end h (by rw [this.1]; exact h61) rfl]
      exact this
  | f + 1, 2, o, kq, y, _, h => by
    rw [prE_2] at h
    cases hd : prE T M f 3 o c kq with
    | inl e => rw [hd] at h; cases h
    | inr z =>
      rw [hd] at h
      have := prE_61 h3 h61 f 3 o kq z (by omega) hd
      rw [pLoop_end h (by rw [this.1]; exact h61) rfl]
      exact this
  | f + 1, 3, o, kq, y, _, h => by
    rw [prE_3, if_neg (by rw [h3]; decide)] at h
    exact prE_61 h3 h61 f 4 o kq y (by omega) h
  | f + 1, 4, o, kq, y, _, h => by
    rw [prE_4] at h
    cases hd : prE T M f 5 o c kq with
    | inl e => rw [hd] at h; cases h
    | inr z =>
      rw [hd] at h
      have := prE_61 h3 h61 f 5 o kq z (by omega) hd
      rw [pPost_end h (by rw [this.1]; exact h61)]
      exact this
  | f + 1, 5, o, kq, y, _, h => by
    rw [prE_5] at h
    unfold pAtom at h
    rw [if_pos h3] at h
    cases h
    exact ⟨rfl, rfl⟩
  | f + 1, t + 6, o, kq, y, ht, h => by omega
section MJA40
variable {E : EV} {d N q c t n e k u v i m o w cs c0 c1 kq nt D me i0 td ty f0 : Nat} {s s1 s2 s' s0 : mjSt3} {j j0 j' jl : JS} {y z : PZ} {os osL : List Row} {l l1 : List Ins} {al : Bool}
theorem BC.aim (B : BC E.1 N q E.2.1 E.2.2.1 s) (hj : ∀ j, ¬ (13 ≤ j ∧ j ≤ 16) → s'.1 75 j = s.1 75 j) (hh : ∀ h, ¬ h = 75 → s'.1 h = s.1 h) (h2 : s'.2 = s.2) : BC E.1 N q E.2.1 E.2.2.1 s' ∧ oC q s s' := by
  have hq : q = 2 ∨ q = 30 := B.1.pq
  have x : oU q s s' := oU.aim hj hh h2
  refine ⟨B.oo x.C ⟨by rw [hh 58 (by decide)]; exact B.2.1.1, by rw [hh 58 (by decide)]; exact B.2.1.2⟩ ?_ ?_, x.C⟩
  · rw [hh _ (by omega)]; exact B.2.2.1
  · rw [hj 11 (by omega)]; exact B.2.2.2
/-- the last instruction of a STATEMENT, in a bad state -/
theorem n_233 (B : BC E.1 N q E.2.1 E.2.2.1 s) : ∃ s', b_8_233 (mjF (d + 1)) 75 (mjW0 s) = some (none, mjW0 s') ∧ BC E.1 N q E.2.1 E.2.2.1 s' ∧ oC q s s' := by
  obtain ⟨y, n', w1, w2, w3, w4, w5⟩ := n_emit (d := d) B (s.1 75 13) (s.1 75 14) (s.1 75 15)
  refine ⟨y, ?_, w3, w4⟩
  unfold b_8_233
  rw [xg_75_5, B.1.2.2.2.2.2.2.2, xg_75_13, xg_75_14, xg_75_15, ycV B.1.pq, w1, bI_s]
theorem n_use (B : BC E.1 N q E.2.1 E.2.2.1 s) (v : Int32) : ∃ s', (if v = 5 then b_8_233 (mjF (d + 8)) 75 (mjW0 s) else gI (mjW0 s) 75 1 16 (fun v22 => rV (mjW0 s) 75 1 (bN (mjF (d + 8) 32 [.ref 75, .int v22] (mjW0 s)) (fun hp23 => b_8_233 (mjF (d + 8)) 75 hp23)))) = some (none, mjW0 s') ∧ BC E.1 N q E.2.1 E.2.2.1 s' ∧ oC q s s' := by
  by_cases g : v = 5
  · rw [if_pos g]
    exact n_233 (d := d + 7) B
  · rw [if_neg g]
    obtain ⟨y, w1, w2, w3, w4⟩ := n_32 (d := d) B (s.1 75 16)
    obtain ⟨z, z1, z2, z3⟩ := n_233 (d := d + 7) w2
    refine ⟨z, ?_, z2, w3.tr z3⟩
    rw [xg_75_16, xV_75, w1, bN_s, z1]
/-- the value right of =, and the last instruction -/
theorem asgC {r : Row} {op p : Int32} (ho : o ≤ 12) (hD : 96 ≤ D) (C : CE E N q s j cs) (C2 : CE E N q s2 jl (cs + l1.length)) (f : fne s2 c1) (hc1 : c1 < N) (hx : oU q s s2) (hL1 : CL q s2 cs l1) (hP1 : CP q cs s s2) (hlen : l1.length + c0 ≤ c1) (jr : jrun E osL j = some (jl, l1)) (h13 : s2.1 75 13 = op) (h14 : s2.1 75 14 = nI f0) (h15 : s2.1 75 15 = p) (h16 : s2.1 75 16 = tyI w) (hw : vT E.2.1 w) (hop : ¬ op = 5) (hv1 : j'.2.2.1 = jl.2.2.1) (hv2 : j'.2.2.2.1 = jl.2.2.2.1) (hjk : JK j j') (hz : prV E.1 (N + 1) o (c1 + 1) kq = .inr z) (h59 : (E.1 z.1).1 = 59) (hK : KT E.2.2.2.1 kq z.2.2.1) (hA : AG s z.2.2.2.2) (hb : cs + (z.1 + 1 - c0) ≤ 3090) (hr : ∀ t al, (fitT E.1 E.2.1 t w = true → jrow E r (jE jl t al) = some (j', [(op, nI f0, p)])) ∧ (¬ fitT E.1 E.2.1 t w = true → jrow E r (jE jl t al) = none)) : gSm E N q s c0 cs j (osL ++ z.2.2.2.1 ++ [r]) (if op = 5 then b_8_233 (mjF (D + 1)) 75 (mjW0 s2) else gI (mjW0 s2) 75 1 16 (fun v22 => rV (mjW0 s2) 75 1 (bN (mjF (D + 1) 32 [.ref 75, .int v22] (mjW0 s2)) (fun hp23 => b_8_233 (mjF (D + 1)) 75 hp23)))) (z.1 + 1) j'.2.2.2.1 := by
  have zc := (prE_len (T := E.1) (M := N + 1) 100 0 o (c1 + 1) kq z (by omega) hz).1
  have hq' : q = 2 ∨ q = 30 := C.pq
  rw [if_neg hop, xg_75_16, h16, xV_75]
  have jall : ∀ b, jrun E (osL ++ z.2.2.2.1 ++ b) j = match jrun E z.2.2.2.1 jl with
      | none => none
      | some (j2, c2) => match jrun E b j2 with
        | none => none
        | some (j3, c3) => some (j3, l1 ++ c2 ++ c3) := by
    intro b
    rw [jrun_app, jrun_app, jr]
    dsimp only
    cases jrun E z.2.2.2.1 jl with
    | none => rfl
    | some x => rfl
  rcases x_32 ho hD hc1 C2 f hz h59 hK (hA.oU C.pq hx) (by omega) hw with ⟨s3, t, al, l, g1, A, ft, gN⟩ | ⟨s3, g1, g2, g3, g4, g5⟩
  · have A8 := A.2.2.2.2.2.2.2
    have C3 := C2.go A.2.2.2.2.2.2.1 A.2.2.2.1
    obtain ⟨s4, w1, w2, w3, w4, w5, w6⟩ := put1 (d := D) C3 (by omega) op (nI f0) p
    have r75 : s3.1 75 = s2.1 75 := A.2.2.2.2.2.2.1.r (by omega)
    have C4 := C3.go w2 w4
    have fr : oSt q s s4 := hx.S.tr (oE.S (A.2.2.2.2.2.2.1.tr w2))
    have ll : (l1 ++ l ++ [((op, nI f0, p) : Ins)]).length = l1.length + l.length + 1 := by rw [List.length_append, List.length_append, List.length_singleton]
    refine Or.inl ⟨s4, j', l1 ++ l ++ [(op, nI f0, p)], ?_, ⟨?_, ?_, ?_, ?_, ?_, fr, ?_, gN, hjk⟩, rfl⟩
    · rw [g1, bN_s]
      unfold b_8_233
      rw [xg_75_5, C3.1.2.2.2.2.2.2.2, xg_75_13, xg_75_14, xg_75_15, r75, h13, h14, h15, ycV C.pq, w1, bI_s]
    · rw [jall, A.1]
      dsimp only
      rw [jrun_1, (hr t al).1 ft]
    · rw [ll, show cs + (l1.length + l.length + 1) = cs + l1.length + l.length + 1 by omega]
      exact C4.same hv1 hv2
    · exact ⟨by rw [w3]; exact A.2.2.1.1, by rw [w3]; exact A.2.2.1.2⟩
    · have c1' := (hL1.keep A.2.2.2.2.2.1).app A.2.2.2.2.1
      have e1 : (l1 ++ l).length = l1.length + l.length := List.length_append
      exact (c1'.keep (by rw [e1, ← Nat.add_assoc]; exact w6)).app (by rw [e1, ← Nat.add_assoc]; exact w5)
    · exact CP.trn hP1 (CP.trn (A.2.2.2.2.2.1.mono (by omega)) (w6.mono (by omega)))
    · rw [ll]; omega
  · obtain ⟨s4, z1, z2, z3⟩ := n_233 (d := D) g4
    refine Or.inr ⟨s4, by rw [g1, bN_s, z1], ?_, z2, hx.C.tr (g5.tr z3)⟩
    rw [jall]
    rcases g3 with h | ⟨t, al, l, h⟩
    · rw [h]
    · rw [h]
      dsimp only
      rw [jrun_1, (hr t al).2 (g2 t al l h)]
theorem lv_row (x a b : Int32) (nm : Int64) : jrow E (15, x, a, b, nm) j = match vsK j.2.2.1 nm with
    | none => none
    | some e => some (jLf j e.2.1 e.2.2.1 (jRS j), []) := rfl
theorem sv_row (x a b : Int32) (nm : Int64) : jrow E (17, x, a, b, nm) (jE (jLf j w f0 (jRS j)) t al) = if fitT E.1 E.2.1 t w = true then some ((j.1, j.2.1, j.2.2.1, j.2.2.2.1, j.2.2.2.2.1, j.2.2.2.2.2.1, f0, jRS j), [(2, nI f0, -1)]) else none := rfl
theorem sf_row (x a b : Int32) (nm : Int64) (t0 : Nat) : jrow E (18, x, a, b, nm) (jE (jLf j w f0 (t0 :: jRS j)) t al) = if fitT E.1 E.2.1 t w = true then some ((j.1, j.2.1, j.2.2.1, j.2.2.2.1, j.2.2.2.2.1, j.2.2.2.2.2.1, f0, jRS j), [(4, nI f0, b)]) else none := rfl
theorem dr_row (x a b : Int32) (nm : Int64) : jrow E (25, x, a, b, nm) (jE j t al) = some (j, [(5, 0, -1)]) := rfl
end MJA40
