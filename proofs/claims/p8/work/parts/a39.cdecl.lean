/-! ===== the Coder: TYPE NAME = E ; ===== -/
section MJA39
variable {E : EV} {d N q c t n e k u v i m o w cs c0 c1 kq nt D me i0 td ty : Nat} {s s1 s' s0 : mjSt3} {j j0 j' : JS} {y z : PZ} {os : List Row} {l : List Ins} {al : Bool} {T : TT} {L : List CD} {vs : List VE}
theorem vl_g (f : Nat → Int64) (a : Nat) (x : Int64) (b : Nat) : vp_updL f a x b = if b = a then x else f b := rfl
theorem ty_E (hkq : kq < 2 ^ 31) (hk : ¬ (E.1 c).1 = 10 → E.2.2.2.1 (nI kq) = c) : (tyOK E.1 E.2.1 E.2.2.1 E.2.2.2.2.1 c → tyE E (if (E.1 c).1 = 10 then -1 else nI kq) = some (tyT E.1 E.2.1 E.2.2.2.2.1 c)) ∧ (¬ tyOK E.1 E.2.1 E.2.2.1 E.2.2.2.2.1 c → tyE E (if (E.1 c).1 = 10 then -1 else nI kq) = none) := by
  unfold tyE tyT
  by_cases e : (E.1 c).1 = 10
  · rw [if_pos e, if_pos rfl, if_pos e]
    exact ⟨fun _ => rfl, fun h => absurd (fun g => absurd e g) h⟩
  · rw [if_neg e, if_neg (nI_m1 (by omega)), if_neg e]
    unfold kdE
    rw [hk e]
    constructor
    · intro h
      obtain ⟨k, h1, h2⟩ := h e
      rw [h1]
      dsimp only
      rw [if_pos h2]
      rfl
    · intro h
      cases hd : kdT E.1 E.2.1 E.2.2.2.2.1 false c with
      | none => rfl
      | some k =>
        dsimp only
        rw [if_neg (fun g => h (fun _ => ⟨k, hd, g⟩))]
        rfl
/-- know -/
theorem x_6 (V : VSr T N L vs td s) (h16 : td < 16) (hc : c1 ≤ N) (h3 : (T c1).1 = 3) (hv : vT L ty) (dp q : Nat) : ∃ s', mjF (d + 1) 6 [.ref 75, .long (s.2.1 62 c1), .int (tyI ty)] (mjW0 s) = some (none, mjW0 s') ∧ VSr T N L (vs ++ [(kyT T c1, ty, td, dp)]) (td + 1) s' ∧ oSt q s s' ∧ (∀ h, ¬ h = 75 → ¬ h = 77 → ¬ h = 78 → s'.1 h = s.1 h) := by
  obtain ⟨v1, v2, v3, v4, v5⟩ := V
  have pre : mjF (d + 1) 6 [.ref 75, .long (s.2.1 62 c1), .int (tyI ty)] (mjW0 s) = _ := e_6 (d := d)
  unfold f_6 b_6_0 at pre
  rw [xg_75_11, v1, xg_75_8, xN_76, if_neg (show ¬ Int32.ofNat 16 ≤ nI vs.length from nI_ge (b := 16) (by omega) (by decide)), xg_75_8, xg_75_11, v1, ws_76 (by omega)] at pre
  obtain ⟨z1, h1⟩ : ∃ z, z = uL s 76 (vp_updL (s.2.1 76) vs.length (s.2.1 62 c1)) := ⟨_, rfl⟩
  have e1 : z1.1 = s.1 := by rw [h1]; rfl
  rw [← h1, xg_75_9, xg_75_11, e1, v1, ws_77 (by omega)] at pre
  obtain ⟨z2, h2⟩ : ∃ z, z = uI z1 77 (upd (z1.1 77) vs.length (tyI ty)) := ⟨_, rfl⟩
  have e2 : z2.1 75 = s.1 75 := by rw [h2, uI_ne _ _ _ _ (by decide), e1]
  rw [← h2, xg_75_10, xg_75_11, e2, v1, xg_75_12, e2, v2, ws_78 (by omega)] at pre
  obtain ⟨z3, h3'⟩ : ∃ z, z = uI z2 78 (upd (z2.1 78) vs.length (nI td)) := ⟨_, rfl⟩
  have e3 : z3.1 75 = s.1 75 := by rw [h3', uI_ne _ _ _ _ (by decide), e2]
  rw [← h3', xg_75_11, e3, v1, nI_1, xp_75_11] at pre
  obtain ⟨z4, h4⟩ : ∃ z, z = uI z3 75 (upd (z3.1 75) 11 (nI (vs.length + 1))) := ⟨_, rfl⟩
  have e4 : z4.1 75 12 = nI td := by rw [h4, uI_same, upd_g, if_neg (by decide), e3, v2]
  rw [← h4, xg_75_12, e4, nI_1, xp_75_12] at pre
  obtain ⟨z5, h5⟩ : ∃ z, z = uI z4 75 (upd (z4.1 75) 12 (nI (td + 1))) := ⟨_, rfl⟩
  rw [← h5] at pre
  have o1 : oSt q s z1 := by rw [h1]; exact offG.wl rfl
  have o2 : oSt q z1 z2 := by rw [h2]; exact offG.w (Or.inr (Or.inr (Or.inl rfl)))
  have o3 : oSt q z2 z3 := by rw [h3']; exact offG.w (Or.inr (Or.inr (Or.inr (Or.inl rfl))))
  have o4 : oSt q z3 z4 := by rw [h4]; exact offG.w (Or.inr (Or.inl ⟨rfl, by omega, by omega⟩))
  have o5 : oSt q z4 z5 := by rw [h5]; exact offG.w (Or.inr (Or.inl ⟨rfl, by omega, by omega⟩))
  have r77 : z5.1 77 = upd (s.1 77) vs.length (tyI ty) := by rw [h5, uI_ne _ _ _ _ (by decide), h4, uI_ne _ _ _ _ (by decide), h3', uI_ne _ _ _ _ (by decide), h2, uI_same, e1]
  have r78 : z5.1 78 = upd (s.1 78) vs.length (nI td) := by rw [h5, uI_ne _ _ _ _ (by decide), h4, uI_ne _ _ _ _ (by decide), h3', uI_same, h2, uI_ne _ _ _ _ (by decide), e1]
  have rl : z5.2 = z1.2 := by rw [h5, h4, h3', h2]; rfl
  have r76 : z5.2.1 76 = vp_updL (s.2.1 76) vs.length (s.2.1 62 c1) := by rw [rl, h1]; exact uL_same _ _ _
  have r62 : z5.2.1 62 = s.2.1 62 := by rw [rl, h1]; exact uL_ne _ _ _ _ (by decide)
  refine ⟨z5, pre, ⟨?_, ?_, ?_, by omega, fun i e he => ?_⟩, o1.tr (o2.tr (o3.tr (o4.tr o5))), fun x a b c => by rw [h5, uI_ne _ _ _ _ a, h4, uI_ne _ _ _ _ a, h3', uI_ne _ _ _ _ c, h2, uI_ne _ _ _ _ b, e1]⟩
  · rw [h5, uI_same, upd_g, if_neg (by decide), h4, uI_same, upd_g, if_pos rfl, List.length_append, List.length_singleton]
  · rw [h5, uI_same, upd_g, if_pos rfl]
  · rw [List.length_append, List.length_singleton]; omega
  · by_cases g : i < vs.length
    · rw [List.getElem?_append_left g] at he
      obtain ⟨a1, a2, a3, a4, t, a5, a6, a7, a8⟩ := v5 i e he
      rw [r77, r78, r76, r62, upd_g, upd_g, vl_g, if_neg (by omega), if_neg (by omega), if_neg (by omega)]
      exact ⟨a1, a2, a3, by omega, t, a5, a6, a7, a8⟩
    · rw [List.getElem?_append_right (by omega)] at he
      have gi : i = vs.length := by
        have := (List.getElem?_eq_some_iff.mp he).1
        rw [List.length_singleton] at this
        omega
      subst gi
      rw [Nat.sub_self] at he
      cases he
      rw [r77, r78, r76, r62, upd_g, upd_g, vl_g, if_pos rfl, if_pos rfl, if_pos rfl]
      exact ⟨rfl, rfl, hv, by show td < td + 1; omega, c1, hc, h3, rfl, rfl⟩
/-- newNameHere -/
theorem x_33 (hT : TH T N s) (hk : KY T N s) (V : VSr T N L vs td s) (f : fne s c) (hc : c < N) (h3 : (T c).1 = 3) : (vsI vs (kyT T c) = none → mjF (d + 2) 33 [.ref 75] (mjW0 s) = some (some (.long (s.2.1 62 c)), mjW0 (tkGo s (c + 1)))) ∧ (¬ vsI vs (kyT T c) = none → ∃ s', mjF (d + 2) 33 [.ref 75] (mjW0 s) = some (some (.long (s.2.1 62 c)), mjW0 s') ∧ bdd N s' ∧ o58 s s') := by
  have l16 : vs.length ≤ 16 := by have := V.2.2.1; have := V.2.2.2.1; omega
  have pre : mjF (d + 2) 33 [.ref 75] (mjW0 s) = _ := e_33 (d := d + 1)
  unfold f_33 b_33_0 b_33_32 at pre
  rw [xg_75_0, xg_75_0, xV_58, j_now hT f.1 (by omega), bI_s, xV_58, j_key hT f.1 (by omega) (by omega), bL_s, xV_75, x_18 V.1 l16, bI_s, fn_vs hk V (by omega) h3] at pre
  refine ⟨fun hi => ?_, fun hi => ?_⟩
  · rw [hi, oI_n, if_pos rfl, xg_75_0, xV_58, j_skip hT f hc, bN_s] at pre
    exact pre
  · obtain ⟨i, hi'⟩ := Option.ne_none_iff_exists'.mp hi
    have := fnd_lt hi'
    rw [hi', oI_s, if_neg (nI_m1 (by omega)), xg_75_0, xV_58] at pre
    obtain ⟨z, z1, z2, z3⟩ := j_ref (d := d) (k := 4) hT f (by omega) (by decide)
    have hz := hT.o58 z3
    rw [z1, bN_s, xg_75_0, xV_58, j_skipB hz z2, bN_s] at pre
    exact ⟨z, pre, z2, z3⟩
theorem vsKI (nm : Int64) : vsK vs nm = none ↔ vsI vs nm = none := by
  have := vsI_K vs nm
  cases h : vsI vs nm with
  | none => rw [h] at this; exact ⟨fun _ => rfl, fun _ => this⟩
  | some i =>
    rw [h] at this
    have il := fnd_lt h
    dsimp only at this
    rw [List.getElem?_eq_getElem il] at this
    rw [this]
    exact ⟨fun x => (by cases x), fun x => (by cases x)⟩
theorem dc_row (x a b : Int32) (nm : Int64) : jrow E (19, x, a, b, nm) j = match tyE E a with
    | none => none
    | some t => if vsK j.2.2.1 nm = none then some ((j.1, j.2.1, j.2.2.1, j.2.2.2.1, j.2.2.2.2.1, (nm, t), j.2.2.2.2.2.2), []) else none := rfl
theorem st_row (x a b : Int32) (nm : Int64) : jrow E (20, x, a, b, nm) (jE j t al) = if fitT E.1 E.2.1 t j.2.2.2.2.2.1.2 = true then some ((j.1, j.2.1, j.2.2.1 ++ [(j.2.2.2.2.2.1.1, j.2.2.2.2.2.1.2, j.2.2.2.1, j.2.2.2.2.1)], j.2.2.2.1 + 1, j.2.2.2.2.1, j.2.2.2.2.2.1, j.2.2.2.2.2.2.1, jRS j), [(2, nI j.2.2.2.1, -1)]) else none := rfl
/-- codeStatement at a TYPE, behind its LINE -/
theorem declC {z : PB} {rest : List Row} (ho : o ≤ 12) (hD : 96 ≤ D) (hc : c ≤ N) (C : CE E N q s j cs) (f : fne s c) (hz : pDecl E.1 (N + 1) o c j.2.2.2.1 kq = .inr z) (er : z.2.2.2.1 = oLine E.1 c :: rest) (hK : KT E.2.2.2.1 kq z.2.2.1) (hA : AG s z.2.2.2.2) (hb : cs + (z.1 - (c + 1)) ≤ 3090) (hkq : kq < 2 ^ 31) : gSm E N q s (c + 1) cs j rest (b_8_172 (mjF (D + 1)) 75 (mjW0 s)) z.1 z.2.1 := by
  have hT := C.TH
  have h0 := hT.2.2.1
  have hN := hT.2.1
  have hn := C.1.hn
  have hq' : q = 2 ∨ q = 30 := C.pq
  obtain ⟨D', rfl⟩ : ∃ D', D = D' + 3 := ⟨D - 3, by omega⟩
  obtain ⟨U, hU⟩ : ∃ U, U = b_8_172 (mjF (D' + 3 + 1)) 75 (mjW0 s) := ⟨_, rfl⟩
  rw [← hU]
  unfold pDecl at hz
  cases hp : pType E.1 c with
  | inl x => rw [hp] at hz; cases hz
  | inr c1 =>
    rw [hp] at hz
    dsimp only at hz
    obtain ⟨TY, ec⟩ := pType_ok h0 hc hp
    have c1N : c1 ≤ N ∧ c + 1 ≤ c1 := by
      rw [ec]
      unfold teT
      rcases TY with ⟨a, b⟩ | ⟨a, b⟩
      · rw [if_pos a]; omega
      · rw [if_neg a]; have := b.2.2.2.1; omega
    by_cases h3 : (E.1 c1).1 = 3
    · rw [if_pos h3] at hz
      by_cases t16 : j.2.2.2.1 = 16
      · rw [if_pos t16] at hz; cases hz
      rw [if_neg t16] at hz
      by_cases h61 : (E.1 (c1 + 1)).1 = 61
      · rw [if_pos h61] at hz
        cases hv : prV E.1 (N + 1) o (c1 + 2) (kq + (if (E.1 c).1 = 10 then 0 else 1)) with
        | inl x => rw [hv] at hz; cases hz
        | inr y =>
          rw [hv] at hz
          dsimp only at hz
          by_cases h59 : (E.1 y.1).1 = 59
          · rw [if_pos h59] at hz
            cases hz
            cases er
            dsimp only at hK hA hb ⊢
            have yl := (prE_len (T := E.1) (M := N + 1) 100 0 o (c1 + 2) _ y (by omega) hv).1
            have c1N2 := lt_z h0 c1N.1 h3 (by decide)
            have c1N3 := lt_z h0 (show c1 + 1 ≤ N by omega) h61 (by decide)
            have tdl : j.2.2.2.1 < 16 := by have := C.2.2.2.1.2.2.2.1; omega
            have hk1 : ¬ (E.1 c).1 = 10 → E.2.2.2.1 (nI kq) = c := by
              intro g
              rw [if_neg g] at hK
              exact (KT.app hK).1 0 c rfl
            have K2 : KT E.2.2.2.1 (kq + (if (E.1 c).1 = 10 then 0 else 1)) y.2.2.1 := by
              have := (KT.app hK).2
              by_cases g : (E.1 c).1 = 10
              · rw [if_pos g] at this ⊢; exact this
              · rw [if_neg g] at this ⊢; exact this
            obtain ⟨te1, te2⟩ := ty_E (E := E) (c := c) hkq hk1
            have dr := dc_row (E := E) (j := j) (E.1 c1).2.1 (if (E.1 c).1 = 10 then -1 else nI kq) 0 (E.1 c1).2.2.1
            have jr0 : jrow E (19, (E.1 c1).2.1, if (E.1 c).1 = 10 then -1 else nI kq, 0, (E.1 c1).2.2.1) j = none → jrun E ((19, (E.1 c1).2.1, if (E.1 c).1 = 10 then -1 else nI kq, 0, (E.1 c1).2.2.1) :: (y.2.2.2.1 ++ [(20, (E.1 (c1 + 1)).2.1, nI j.2.2.2.1, 0, 0)])) j = none := by
              intro g
              have := jrun_no3 (E := E) (a := []) (b := y.2.2.2.1 ++ [(20, (E.1 (c1 + 1)).2.1, nI j.2.2.2.1, 0, 0)]) (j := j) (j1 := j) (l := []) rfl g
              exact this
            obtain ⟨X1, X2⟩ := x_68 (d := D') C.1.1.1 C.2.2.1 f TY E.2.2.1 C.1.2.2.2.2.1 C.1.1.2.2.2.2.2.2.1 C.1.1.2.2.1
            have tail : ∀ (s1 : mjSt3) (w : Int32) (key : Int64), BC E.1 N q E.2.1 E.2.2.1 s1 → oC q s s1 → jrun E ((19, (E.1 c1).2.1, if (E.1 c).1 = 10 then -1 else nI kq, 0, (E.1 c1).2.2.1) :: (y.2.2.2.1 ++ [(20, (E.1 (c1 + 1)).2.1, nI j.2.2.2.1, 0, 0)])) j = none → U = gR (mjW0 s1) 75 1 5 (fun v8 => gI (mjW0 s1) 75 1 12 (fun v9 => rV (mjW0 s1) v8 0 (bI (mjF (D' + 3 + 1) 1 [.ref v8, .int 2, .int v9, .int (-1)] (mjW0 s1)) (fun v10 hp11 => rV hp11 75 1 (bN (mjF (D' + 3 + 1) 6 [.ref 75, .long key, .int w] hp11) (fun hp12 => some (none, hp12))))))) → gSm E N q s (c + 1) cs j ((19, (E.1 c1).2.1, if (E.1 c).1 = 10 then -1 else nI kq, 0, (E.1 c1).2.2.1) :: (y.2.2.2.1 ++ [(20, (E.1 (c1 + 1)).2.1, nI j.2.2.2.1, 0, 0)])) (U) (y.1 + 1) (j.2.2.2.1 + 1) := by
              intro s1 w key B ob nj pr
              obtain ⟨s2, n', w1, w2, w3, w4, w5⟩ := n_emit (d := D' + 3) B 2 (s1.1 75 12) (-1)
              obtain ⟨s3, r1, r2, r3⟩ := n_6 (d := D' + 3) w3 key w
              rw [xg_75_5, B.1.2.2.2.2.2.2.2, xg_75_12, ycV C.pq, w1, bI_s, xV_75, r1, bN_s] at pr
              exact Or.inr ⟨s3, pr, nj, r2, ob.tr (w4.tr r3)⟩
            have pre := hU
            unfold b_8_172 at pre
            rw [xg_75_2, xg_75_6, C.2.1, xV_71] at pre
            by_cases tok : tyOK E.1 E.2.1 E.2.2.1 E.2.2.2.2.1 c
            · have te := te1 tok
              rw [te] at dr
              dsimp only at dr
              have xg : o58 s (tkGo s (teT E.1 c)) := o58.go _ _
              rw [X1 tok, bI_s, xV_75] at pre
              rw [← ec] at pre xg
              have C1 : CE E N q (tkGo s c1) j cs := C.go xg.oe (by rw [xg.r (by omega)]; exact C.2.2.2.2)
              obtain ⟨Y1, Y2⟩ := x_33 (d := D' + 2) C1.TH C1.KY C1.2.2.2.1 (f.go c1) c1N2 h3
              have tv : vT E.2.1 (tyT E.1 E.2.1 E.2.2.2.2.1 c) := ty_v hn C.2.2.1
              have tl := tv.lt hn
              by_cases nk : vsI j.2.2.1 (kyT E.1 c1) = none
              · rw [if_pos (show vsK j.2.2.1 (E.1 c1).2.2.1 = none from (vsKI _).mpr nk)] at dr
                obtain ⟨jd, hjd⟩ : ∃ jd : JS, jd = (j.1, j.2.1, j.2.2.1, j.2.2.2.1, j.2.2.2.2.1, ((E.1 c1).2.2.1, tyT E.1 E.2.1 E.2.2.2.2.1 c), j.2.2.2.2.2.2) := ⟨_, rfl⟩
                rw [← hjd] at dr
                have xg2 : o58 s (tkGo (tkGo s c1) (c1 + 1)) := xg.tr (o58.go _ _)
                have C2 : CE E N q (tkGo (tkGo s c1) (c1 + 1)) jd cs := (C.go xg2.oe (by rw [xg2.r (by omega)]; exact C.2.2.2.2)).same (by rw [hjd]) (by rw [hjd])
                rw [Y1 nk, bL_s, xV_75] at pre
                have jall : ∀ r2, jrun E ((19, (E.1 c1).2.1, if (E.1 c).1 = 10 then -1 else nI kq, 0, (E.1 c1).2.2.1) :: r2) j = jrun E r2 jd := by
                  intro r2
                  show (match jrow E (19, (E.1 c1).2.1, if (E.1 c).1 = 10 then -1 else nI kq, 0, (E.1 c1).2.2.1) j with
                    | none => none
                    | some (j1, c1) => match jrun E r2 j1 with
                      | none => none
                      | some (j2, c2) => some (j2, c1 ++ c2)) = _
                  rw [dr]
                  dsimp only
                  cases jrun E r2 jd with
                  | none => rfl
                  | some x => rfl
                rcases x_32 (D := D' + 3) ho hD c1N3 C2 ((f.go c1).go (c1 + 1)) hv h59 K2 (hA.oE C.pq xg2.oe) (by omega) tv with ⟨s3, t, al, l, g1, A, ft, gN⟩ | ⟨s3, g1, g2, g3, g4, g5⟩
                · have A8 := A.2.2.2.2.2.2.2
                  have C3 := C2.go A.2.2.2.2.2.2.1 A.2.2.2.1
                  obtain ⟨s4, w1, w2, w3, w4, w5, w6⟩ := put1 (d := D' + 3) C3 (by omega) 2 (nI jd.2.2.2.1) (-1)
                  have C4 := C3.go w2 w4
                  have s62 : s4.2.1 62 = s.2.1 62 := by
                    have := (xg2.oe.tr (A.2.2.2.2.2.2.1.tr w2)).2.1
                    exact funext fun i => this 62 i (fun e => e)
                  have td2 : jd.2.2.2.1 = j.2.2.2.1 := by rw [hjd]
                  obtain ⟨s5, r1, r2, r3, r4⟩ := x_6 (d := D' + 3) (c1 := c1) (ty := tyT E.1 E.2.1 E.2.2.2.2.1 c) C4.2.2.2.1 (by omega) c1N.1 h3 tv j.2.2.2.2.1 q
                  rw [s62] at r1
                  rw [g1, bN_s, xg_75_5, C3.1.2.2.2.2.2.2.2, xg_75_12, C3.2.2.2.1.2.1, ycV C.pq, w1, bI_s, xV_75, show (tkGo s c1).2.1 62 = s.2.1 62 from rfl, r1, bN_s] at pre
                  have fr : oSt q s s5 := (oE.S (xg2.oe.tr (A.2.2.2.2.2.2.1.tr w2))).tr r3
                  have cp5 : CP q (cs + (l ++ [((2, nI jd.2.2.2.1, -1) : Ins)]).length) s4 s5 := fun i _ => by
                    rw [r4 _ (by omega) (by omega) (by omega), r4 _ (by omega) (by omega) (by omega), r4 _ (by omega) (by omega) (by omega)]
                    exact ⟨rfl, rfl, rfl⟩
                  have sr := st_row (E := E) (j := jd) (t := t) (al := al) (E.1 (c1 + 1)).2.1 (nI j.2.2.2.1) 0 0
                  have dcv : jd.2.2.2.2.2.1 = ((E.1 c1).2.2.1, tyT E.1 E.2.1 E.2.2.2.2.1 c) := by rw [hjd]
                  rw [dcv] at sr
                  dsimp only at sr
                  rw [if_pos ft] at sr
                  obtain ⟨jf, hjf⟩ : ∃ jf : JS, jf = (jd.1, jd.2.1, jd.2.2.1 ++ [((E.1 c1).2.2.1, tyT E.1 E.2.1 E.2.2.2.2.1 c, jd.2.2.2.1, jd.2.2.2.2.1)], jd.2.2.2.1 + 1, jd.2.2.2.2.1, ((E.1 c1).2.2.1, tyT E.1 E.2.1 E.2.2.2.2.1 c), jd.2.2.2.2.2.2.1, jRS jd) := ⟨_, rfl⟩
                  rw [← hjf] at sr
                  have sz : s5.1 (q + 24) 3 = nI (cs + (l ++ [((2, nI jd.2.2.2.1, -1) : Ins)]).length) := by
                    rw [r4 _ (by omega) (by omega) (by omega), w4, List.length_append, List.length_singleton, Nat.add_assoc]
                  refine Or.inl ⟨s5, jf, l ++ [(2, nI jd.2.2.2.1, -1)], pre, ⟨?_, ⟨C.1.oC fr.C, by rw [fr.ff C.pq (by omega)]; exact C.2.1, C.2.2.1, ?_, sz⟩, ?_, ?_, ?_, fr, ?_, gN, ?_⟩, ?_⟩
                  · rw [jall, jrun_app, A.1]
                    dsimp only
                    rw [jrun_1, sr]
                  · rw [hjf, hjd]
                    rw [hjd] at r2
                    exact r2
                  · exact ⟨by rw [r4 _ (by omega) (by omega) (by omega), w3]; exact A.2.2.1.1, by rw [r4 _ (by omega) (by omega) (by omega), w3]; exact A.2.2.1.2⟩
                  · exact CL.keep ((A.2.2.2.2.1.keep w6).app w5) cp5
                  · exact CP.trn (CP.o58 C.pq xg2) (CP.trn A.2.2.2.2.2.1 (CP.trn (w6.mono (by omega)) (cp5.mono (by omega))))
                  · rw [List.length_append, List.length_singleton]; omega
                  · rw [hjf, hjd]
                    exact ⟨rfl, rfl, ⟨_, rfl, fun e he => by rw [List.mem_singleton.mp he]⟩, rfl, rfl⟩
                  · rw [hjf, hjd]
                · rw [g1, bN_s] at pre
                  refine tail s3 _ _ g4 (xg2.C.tr g5) ?_ pre
                  rw [jall, jrun_app]
                  rcases g3 with h | ⟨t, al, l, h⟩
                  · rw [h]
                  · rw [h]
                    dsimp only
                    rw [jrun_1, st_row, show jd.2.2.2.2.2.1 = ((E.1 c1).2.2.1, tyT E.1 E.2.1 E.2.2.2.2.1 c) by rw [hjd], if_neg (g2 t al l h)]
              · rw [if_neg (show ¬ vsK j.2.2.1 (E.1 c1).2.2.1 = none from fun x => nk ((vsKI _).mp x))] at dr
                obtain ⟨s2, y1, y2, y3⟩ := Y2 nk
                have B := C1.bad (by omega) y3 y2
                obtain ⟨s3, r1, r2, r3, r4⟩ := n_32 (d := D' + 3 - 7) B (tyI (tyT E.1 E.2.1 E.2.2.2.2.1 c))
                rw [show D' + 3 - 7 + 8 = D' + 3 + 1 by omega] at r1
                rw [y1, bL_s, xV_75, r1, bN_s] at pre
                exact tail s3 _ _ r2 (xg.C.tr (y3.C.tr r3)) (jr0 dr) pre
            · rw [te2 tok] at dr
              obtain ⟨w, s1, y1, y2, y3⟩ := X2 tok
              have B := C.bad (by omega) y3 y2
              obtain ⟨key, k1⟩ := n_33 (d := D' + 2) B
              obtain ⟨s3, r1, r2, r3, r4⟩ := n_32 (d := D' + 3 - 7) B w
              rw [show D' + 3 - 7 + 8 = D' + 3 + 1 by omega] at r1
              rw [y1, bI_s, xV_75, k1, bL_s, xV_75, r1, bN_s] at pre
              exact tail s3 _ _ r2 (y3.C.tr r3) (jr0 dr) pre
          · rw [if_neg h59] at hz; cases hz
      · rw [if_neg h61] at hz; cases hz
    · rw [if_neg h3] at hz; cases hz
end MJA39
