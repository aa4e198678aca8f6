/-! ===== the Coder: POST ===== -/
theorem pPost_pre {T : TT} {ra : Nat → Nat → PX} {kq : Nat} (hr : ∀ c kq x, ra c kq = .inr x → c < x.1) : ∀ (k : Nat) (z y : PZ), pPost T ra kq k z = .inr y → z.1 ≤ y.1 ∧ ∃ a b c, y.2.2.1 = z.2.2.1 ++ a ∧ y.2.2.2.1 = z.2.2.2.1 ++ b ∧ y.2.2.2.2 = z.2.2.2.2 ++ c
  | 0, z, y, h => by cases h; exact ⟨Nat.le_refl _, [], [], [], (List.append_nil _).symm, (List.append_nil _).symm, (List.append_nil _).symm⟩
  | k + 1, z, y, h => by
    unfold pPost at h
    by_cases g : (T z.1).1 = 20
    · rw [if_pos g] at h
      cases hd : pKind T (z.1 + 1) with
      | inl e => rw [hd] at h; cases h
      | inr c' =>
        rw [hd] at h
        have hw := pKind_len hd
        obtain ⟨h1, a, b, c, h2, h3, h4⟩ := pPost_pre hr k _ y h
        dsimp only at h1 h2 h3 h4
        exact ⟨by omega, _, _, _, by rw [h2, List.append_assoc], by rw [h3, List.append_assoc], h4⟩
    · rw [if_neg g] at h
      by_cases g2 : (T z.1).1 = 46
      · rw [if_pos g2] at h
        by_cases g3 : (T (z.1 + 1)).1 = 3
        · rw [if_pos g3] at h
          by_cases g4 : (T (z.1 + 2)).1 = 40
          · rw [if_pos g4] at h
            cases hd : ra (z.1 + 2) (kq + z.2.2.1.length) with
            | inl e => rw [hd] at h; cases h
            | inr x =>
              rw [hd] at h
              have := hr _ _ _ hd
              obtain ⟨h1, a, b, c, h2, h3, h4⟩ := pPost_pre hr k _ y h
              dsimp only at h1 h2 h3 h4
              exact ⟨by omega, _, _, _, by rw [h2, List.append_assoc], by rw [h3, List.append_assoc], by rw [h4, List.append_assoc]⟩
          · rw [if_neg g4] at h
            obtain ⟨h1, a, b, c, h2, h3, h4⟩ := pPost_pre hr k _ y h
            dsimp only at h1 h2 h3 h4
            exact ⟨by omega, _, _, _, h2, by rw [h3, List.append_assoc], h4⟩
        · rw [if_neg g3] at h; cases h
      · rw [if_neg g2] at h
        cases h
        exact ⟨Nat.le_refl _, [], [], [], (List.append_nil _).symm, (List.append_nil _).symm, (List.append_nil _).symm⟩
/-- nothing more -/
theorem pPost_end {T : TT} {ra : Nat → Nat → PX} {kq k : Nat} {z y : PZ} (h : pPost T ra kq k z = .inr y) (h61 : (T z.1).1 = 61) : y = z := by
  cases k with
  | zero => cases h; rfl
  | succ k =>
    unfold pPost at h
    rw [if_neg (by rw [h61]; decide), if_neg (by rw [h61]; decide)] at h
    cases h; rfl
section MJA32
variable {E : EV} {d N q c t n e k u v i m o w cs c0 kq nt : Nat} {s s' s0 : mjSt3} {j j0 : JS} {y z : PZ} {p : Nat × Nat} {os : List Row} {rs : List Nat} {l : List Ins} {al isM : Bool}
theorem atC.t58 (A : atC E N q s0 c0 cs j0 os s c t al l) (hq : isP q) (x : o58 s s') (f : fne s' n) (h : c ≤ n) : atC E N q s0 c0 cs j0 os s' n t al l := by
  obtain ⟨A1, A2, A3, A4, A5, A6, A7, A8⟩ := A
  have hq' : q = 2 ∨ q = 30 := hq
  exact ⟨A1, A2, f, by rw [x.r (by omega)]; exact A4, A5.keep (CP.o58 hq x), CP.trn A6 (CP.o58 hq x), A7.tr x.oe, by omega⟩
/-- codeField, where no = follows -/
theorem x_24 (C : CE E N q s0 j0 cs) (A : atC E N q s0 c0 cs j0 os s c t al l) (hcN : c ≤ N) (h61 : ¬ (E.1 c).1 = 61) (hnt : nt ≤ N) (hl : l.length + c0 < c) (hb : cs + l.length ≤ 3090) {nm : Int64} (hp : prtE E (t, al) nm false = some p) : ∃ s', mjF (d + 2) 24 [.ref 75, .int (nI p.1), .int (nI nt)] (mjW0 s) = some (none, mjW0 s') ∧ atC E N q s0 c0 cs j0 (os ++ [(10, (E.1 nt).2.1, 0, 0, nm)]) s' c (sty (nmL E.2.1) (tyM E.1 E.2.1 p.1) p.2) false (l ++ [(12, nI (numM E.1 E.2.1 p.1), (E.1 nt).2.1)]) := by
  have Cs : CE E N q s j0 (cs + l.length) := C.go A.2.2.2.2.2.2.1 A.2.2.2.1
  have d3 := Cs.1.2.1.2.2.1
  obtain ⟨kk, _, _, _, _, ok, _⟩ := prt_v C A.2.1 hp
  have hm := ok.1
  have tv : vT E.2.1 (tyM E.1 E.2.1 p.1) := ty_v C.1.hn (fun c hc => by cases hc; exact (C.1.2.1.2.2.2.2 p.1 ok.1).2.1)
  obtain ⟨s', b1, b2', b3⟩ := A.put (d := d) C 12 (nI (numM E.1 E.2.1 p.1)) (E.1 nt).2.1 (fld_row (j0 := j0) (E.1 nt).2.1 nm hp) (Or.inr (tv.sty C.1.hn ok.2)) hl (by omega)
  refine ⟨s', ?_, b2'⟩
  have f := A.2.2.1
  rw [e_24]
  unfold f_24 b_24_0
  rw [xg_75_0, xV_58, j_place Cs.TH f.1 hcN hnt, bI_s, xg_75_0, xV_58, j_is Cs.TH f.1 hcN, bI_s, i01, if_neg h61, xg_75_5, Cs.1.2.2.2.2.2.2.2, xg_75_4, Cs.1.2.2.2.2.2.2.1, ymg_5 C.pq, wya_19 C.pq (by omega), (Cs.1.1.2.2.2.2.2.1 p.1 hm).1, ycV C.pq, b1, bI_s]
/-- refuseIfInt -/
theorem x_26 (C : CB E.1 N q E.2.1 E.2.2.1 s) (g : GB N s) (ht : t ≤ N) {ty : Nat} (hv : ty < 524290) : ∃ s', mjF (d + 2) 26 [.ref 75, .int (tyI ty), .int (nI t)] (mjW0 s) = some (none, mjW0 s') ∧ o58 s s' ∧ (¬ ty = 0 → s' = s) ∧ (ty = 0 → bdd N s') := by
  have pre : mjF (d + 2) 26 [.ref 75, .int (tyI ty), .int (nI t)] (mjW0 s) = _ := e_26 (d := d + 1)
  unfold f_26 b_26_0 at pre
  have e : tyI ty = -1 ↔ ty = 0 := tyI_eq (u := 0) hv (by decide)
  by_cases h : ty = 0
  · rw [if_pos (e.mpr h), xg_75_0, xV_58] at pre
    obtain ⟨z, z1, z2, z3⟩ := j_atG (d := d) (k := 7) C.1.1.1 g ht (by decide)
    rw [z1, bN_s] at pre
    exact ⟨z, pre, z3, fun x => absurd h x, fun _ => z2⟩
  · rw [if_neg (fun x => h (e.mp x))] at pre
    exact ⟨s, pre, offG.rf, fun _ => rfl, fun x => absurd x h⟩
theorem as_row (x a : Int32) : jrow E (14, x, a, 0, 0) (jE j0 t al) = match kdE E a with
    | none => none
    | some k => if t = 0 then none else some (jE j0 (k + 2) false, [(15, nI k, x)]) := rfl
theorem jrun_no2 {a b : List Row} {r : Row} {j j1 : JS} {l : List Ins} (h : jrun E a j = some (j1, l)) (g : jrow E r j1 = none) : jrun E (a ++ [r] ++ b) j = none := by
  refine jrun_no ?_
  rw [jrun_app, h]
  dsimp only
  rw [jrun_1, g]
theorem jrun_no3 {a b : List Row} {r : Row} {j j1 : JS} {l : List Ins} (h : jrun E a j = some (j1, l)) (g : jrow E r j1 = none) : jrun E (a ++ r :: b) j = none := by
  have := jrun_no2 (b := b) h g
  rwa [List.append_assoc] at this
/-- the loop of codePost -/
theorem postC (ih : ¬ o = 12 → hE E N q (d + 5) 11 (prE E.1 (N + 1) w 0 (o + 1)) P3) (C : CE E N q s0 j0 cs) (h61 : ¬ (E.1 y.1).1 = 61) (hK : KT E.2.2.2.1 kq y.2.2.1) (hA : AG s0 y.2.2.2.2) (hb : cs + (y.1 - c0) ≤ 3090) : ∀ (k n i : Nat) (z : PZ) (s : mjSt3) (t : Nat) (al : Bool) (l : List Ins), pPost E.1 (prE E.1 (N + 1) (w + 1) 6 o) kq k z = .inr y → i + k = N + 1 → k < n → atC E N q s0 c0 cs j0 z.2.2.2.1 s z.1 t al l → z.1 ≤ N → (z.2.1 = 3 → l.length + c0 + 3 ≤ z.1) → gCo E N q s0 c0 cs j0 y.2.2.2.1 (L_15_17 (mjF (d + 7)) n 75 (b2 al) (tyI t) (nI i) (mjW0 s)) y.1 (P3 c0 y)
  | k, 0, i, z, s, t, al, l, h, hi, hk, A, hzN, hs => by omega
  | 0, n + 1, i, z, s, t, al, l, h, hi, hk, A, hzN, hs => by
    cases h
    have Cs : CE E N q s j0 (cs + l.length) := C.go A.2.2.2.2.2.2.1 A.2.2.2.1
    have hT := Cs.TH
    refine Or.inl ⟨s, t, al, l, ?_, A, hzN, hs⟩
    rw [L15_S]
    unfold b_15_17 b_15_145
    rw [xg_75_0, xV_58, sz0 hT A.2.2.1.1 hzN, bI_s, if_pos (show nI (N + 1) ≤ nI i by rw [show i = N + 1 by omega]; exact Int32.le_refl _)]
  | k + 1, n + 1, i, z, s, t, al, l, h, hi, hk, A, hzN, hs => by
    have hra : ∀ c kq x, prE E.1 (N + 1) (w + 1) 6 o c kq = .inr x → c < x.1 := fun c kq x hx => (prE_len (T := E.1) (M := N + 1) (w + 1) 6 o c kq x (by omega) hx).1
    have Cs : CE E N q s j0 (cs + l.length) := C.go A.2.2.2.2.2.2.1 A.2.2.2.1
    have hq' : q = 2 ∨ q = 30 := C.pq
    have hT := Cs.TH
    have h0 := hT.2.2.1
    have hN := hT.2.1
    have hn := C.1.hn
    have f := A.2.2.1
    have tl := A.2.1.lt hn
    have A8 := A.2.2.2.2.2.2.2
    have zy := (pPost_pre hra (k + 1) z y h).1
    have lb : cs + l.length ≤ 3090 := by omega
    have pre : L_15_17 (mjF (d + 7)) (n + 1) 75 (b2 al) (tyI t) (nI i) (mjW0 s) = _ := L15_S _ _ _ _ _ _ _
    unfold b_15_17 at pre
    rw [xg_75_0, xV_58, sz0 hT f.1 hzN, bI_s, if_neg (show ¬ nI (N + 1) ≤ nI i from nI_ge (by omega) (by omega)), xg_75_0, xV_58, j_is hT f.1 hzN, bI_s, i01, xg_75_0, xV_58, j_is hT f.1 hzN, bI_s, i01] at pre
    unfold pPost at h
    have xg : o58 s (tkGo s (z.1 + 1)) := o58.go _ _
    have C1 : CE E N q (tkGo s (z.1 + 1)) j0 (cs + l.length) := Cs.go xg.oe (by rw [xg.r (by omega)]; exact A.2.2.2.1)
    have f1 := f.go (z.1 + 1)
    have bad : ∀ (s1 : mjSt3) (vv : Nat), vv < 524290 → bdC E N q s0 j0 y.2.2.2.1 s1 → L_15_17 (mjF (d + 7)) (n + 1) 75 (b2 al) (tyI t) (nI i) (mjW0 s) = L_15_17 (mjF (d + 7)) n 75 0 (tyI vv) (nI (i + 1)) (mjW0 s1) → gCo E N q s0 c0 cs j0 y.2.2.2.1 (L_15_17 (mjF (d + 7)) (n + 1) 75 (b2 al) (tyI t) (nI i) (mjW0 s)) y.1 (P3 c0 y) := by
      intro s1 vv hv hb1 pr
      obtain ⟨n', rfl⟩ : ∃ n', n = n' + 1 := ⟨n - 1, by omega⟩
      rw [n_15l hb1.2.1] at pr
      exact Or.inr ⟨s1, vv, pr, hv, hb1⟩
    by_cases e20 : (E.1 z.1).1 = 20
    · rw [if_pos e20] at h
      have zN := lt_z h0 hzN e20 (by decide)
      rw [if_neg (by rw [e20]; decide), if_pos e20] at pre
      cases hp : pKind E.1 (z.1 + 1) with
      | inl x => rw [hp] at h; cases h
      | inr c' =>
        rw [hp] at h
        dsimp only at h
        obtain ⟨KD, ec⟩ := pKind_ok h0 (show z.1 + 1 ≤ N by omega) hp
        have cl := pKind_len hp
        have kl := KD.2.2.2.1
        obtain ⟨h1, pa, pb, pc, p1, p2, p3⟩ := pPost_pre hra k _ y h
        dsimp only at h1 p1 p2 p3
        have ha : E.2.2.2.1 (nI (kq + z.2.2.1.length)) = z.1 + 1 := by
          have K1 := (KT.app (show KT E.2.2.2.1 kq ((z.2.2.1 ++ [z.1 + 1]) ++ pa) from p1 ▸ hK)).1
          exact (KT.app K1).2 0 (z.1 + 1) rfl
        obtain ⟨G, B⟩ := x_kd (d := d + 4) C1 (by omega) f1 KD ha
        unfold b_15_52 at pre
        rw [xg_75_0, xV_58, j_now hT f.1 hzN, bI_s, xg_75_0, xV_58, j_skip hT f zN, bN_s, xg_75_0, xV_58, j_kind C1.TH f1.1 (by omega) hzN, bI_s, if_neg (show ¬ (E.1 z.1).1 = 46 by rw [e20]; decide), xg_75_2, xg_75_6, C1.2.1, xV_71] at pre
        have ar := as_row (E := E) (j0 := j0) (t := t) (al := al) (E.1 z.1).2.1 (nI (kq + z.2.2.1.length))
        cases hk' : kdE E (nI (kq + z.2.2.1.length)) with
        | none =>
          rw [hk'] at ar
          obtain ⟨kk, s1, kl2, y1, y2, y3⟩ := B hk'
          obtain ⟨s2, z1, z2, z3, z4⟩ := x_26 (d := d + 5) (t := z.1) y2.1 (GB.ob y2.2.1) hzN tl
          have b2s : BC E.1 N q E.2.1 E.2.2.1 s2 := by
            by_cases t0 : t = 0
            · exact BC.of58 y2.1 z2 (z4 t0) y2.2.2.1 y2.2.2.2
            · rw [z3 t0]; exact y2
          obtain ⟨s3, n', w1, w2, w3, w4, w5⟩ := n_emit (d := d + 6) b2s 15 (nI kk) (E.1 z.1).2.1
          rw [y1, bI_s, xV_75, z1, bN_s, xg_75_5, b2s.1.2.2.2.2.2.2.2, xg_75_0, xV_58, j_place b2s.1.1.1.1 b2s.2.1.1 (Nat.le_refl N) hzN, bI_s, ycV C.pq, w1, bI_s] at pre
          unfold b_15_137 at pre
          rw [nI_1] at pre
          refine bad s3 (kk + 2) (by omega) ⟨?_, w3, A.2.2.2.2.2.2.1.C.tr (xg.C.tr (y3.C.tr (z2.C.tr w4)))⟩ pre
          rw [p2]
          exact jrun_no2 A.1 ar
        | some kk =>
          have vk := kd_E C1 ha hk'
          have vkl := vk.lt hn
          rw [hk'] at ar
          dsimp only at ar
          have ff := f1.go (z.1 + 1 + 2 + 2 * cntO E.1 6 (z.1 + 1 + 2))
          have x2 : o58 s (tkGo (tkGo s (z.1 + 1)) (z.1 + 1 + 2 + 2 * cntO E.1 6 (z.1 + 1 + 2))) := xg.tr (o58.go _ _)
          rw [← ec] at ff x2
          have C2 : CE E N q (tkGo (tkGo s (z.1 + 1)) c') j0 (cs + l.length) := Cs.go x2.oe (by rw [x2.r (by omega)]; exact A.2.2.2.1)
          obtain ⟨s2, z1, z2, z3, z4⟩ := x_26 (d := d + 5) (t := z.1) C2.1 (GB.of ff (by omega)) hzN tl
          rw [G kk hk', ← ec, bI_s, xV_75, z1, bN_s] at pre
          by_cases t0 : t = 0
          · rw [if_pos t0] at ar
            have b2s : BC E.1 N q E.2.1 E.2.2.1 s2 := C2.bad (by omega) z2 (z4 t0)
            obtain ⟨s3, n', w1, w2, w3, w4, w5⟩ := n_emit (d := d + 6) b2s 15 (nI kk) (E.1 z.1).2.1
            rw [xg_75_5, b2s.1.2.2.2.2.2.2.2, xg_75_0, xV_58, j_place b2s.1.1.1.1 b2s.2.1.1 (Nat.le_refl N) hzN, bI_s, ycV C.pq, w1, bI_s] at pre
            unfold b_15_137 at pre
            rw [nI_1] at pre
            refine bad s3 (kk + 2) (by omega) ⟨?_, w3, A.2.2.2.2.2.2.1.C.tr (x2.C.tr (z2.C.tr w4))⟩ pre
            rw [p2]
            exact jrun_no2 A.1 ar
          · rw [if_neg t0] at ar
            rw [z3 t0] at pre
            have A2 := A.t58 C.pq x2 ff (show z.1 ≤ c' by omega)
            obtain ⟨s3, w1, w2, w3⟩ := A2.put (d := d + 6) C 15 (nI kk) (E.1 z.1).2.1 ar (Or.inr (Or.inr ⟨kk, rfl, vk⟩)) (by omega) (by omega)
            rw [xg_75_5, C2.1.2.2.2.2.2.2.2, xg_75_0, xV_58, j_place C2.TH ff.1 (by omega) hzN, bI_s, ycV C.pq, w1, bI_s] at pre
            unfold b_15_137 at pre
            rw [nI_1] at pre
            rw [pre]
            exact postC ih C h61 hK hA hb k n (i + 1) _ s3 (kk + 2) false _ h (by omega) (by omega) w2 (by show c' ≤ N; omega) (fun x => by cases x)
    rw [if_neg e20] at h
    by_cases e46 : (E.1 z.1).1 = 46
    · rw [if_pos e46] at h
      have zN := lt_z h0 hzN e46 (by decide)
      rw [if_pos e46] at pre
      unfold b_15_52 at pre
      rw [xg_75_0, xV_58, j_now hT f.1 hzN, bI_s, xg_75_0, xV_58, j_skip hT f zN, bN_s, xg_75_0, xV_58, j_kind C1.TH f1.1 (by omega) hzN, bI_s, if_pos e46, xV_75] at pre
      by_cases e3 : (E.1 (z.1 + 1)).1 = 3
      · rw [if_pos e3] at h
        have z1N := lt_z h0 (show z.1 + 1 ≤ N by omega) e3 (by decide)
        have A1 := A.t58 C.pq xg f1 (show z.1 ≤ z.1 + 1 by omega)
        by_cases e40 : (E.1 (z.1 + 2)).1 = 40
        · rw [if_pos e40] at h
          obtain ⟨G, B⟩ := x_22a (d := d) (nt := z.1 + 1) (isM := true) C A1 (by omega) lb e3 (by omega) (decide_eq_true e40).symm
          cases hd : prE E.1 (N + 1) (w + 1) 6 o (z.1 + 2) (kq + z.2.2.1.length) with
          | inl x => rw [hd] at h; cases h
          | inr x =>
            rw [hd] at h
            dsimp only at h
            have zx := hra _ _ _ hd
            obtain ⟨h1, pa, pb, pc, p1, p2, p3⟩ := pPost_pre hra k _ y h
            dsimp only at h1 p1 p2 p3
            rw [prE_6] at hd
            have K1 := (KT.app (KT.app (show KT E.2.2.2.1 kq ((z.2.2.1 ++ x.2.2.1) ++ pa) from p1 ▸ hK)).1).2
            have G1 : AG s0 x.2.2.2.2 := (AG.app (AG.app (show AG s0 ((z.2.2.2.2 ++ x.2.2.2.2) ++ pc) from p3 ▸ hA)).1).2
            cases hp : prtE E (t, al) (E.1 (z.1 + 1)).2.2.1 true with
            | none =>
              obtain ⟨s1, vv, y1, yv, y2, y3⟩ := B hp
              rw [y1, bI_s] at pre
              unfold b_15_137 at pre
              rw [nI_1] at pre
              refine bad s1 vv yv ⟨?_, y2, y3⟩ pre
              have ej : ∃ cn r, x.2.2.2.1 = oAsk E.1 (z.1 + 2) cn :: r := by
                unfold pCall at hd
                by_cases o12 : o = 12
                · rw [if_pos o12] at hd; cases hd
                · rw [if_neg o12] at hd
                  by_cases g : (E.1 (z.1 + 2 + 1)).1 = 41
                  · rw [if_pos g] at hd; cases hd; exact ⟨_, _, rfl⟩
                  · rw [if_neg g] at hd
                    cases hpa : pArgs E.1 (prE E.1 (N + 1) w 0 (o + 1)) (kq + z.2.2.1.length) 7 0 (z.1 + 2 + 1, 0, [], [], []) with
                    | inl e => rw [hpa] at hd; cases hd
                    | inr y' => rw [hpa] at hd; cases hd; exact ⟨_, _, rfl⟩
              obtain ⟨cn, r, er⟩ := ej
              rw [p2, er]
              refine jrun_no (jrun_no3 A.1 ?_)
              exact ask_no _ _ _ hp
            | some p =>
              obtain ⟨s1, x1, fs, g1⟩ := G p hp
              rw [show b2 true = (1 : Int32) from rfl, if_neg (by decide)] at g1
              have A2 := A1.t58 C.pq x1 fs (show z.1 + 1 ≤ z.1 + 1 + 1 by omega)
              obtain ⟨kk, _, _, _, _, ok, _⟩ := prt_v C A.2.1 hp
              have X := x_23 (d := d) (nt := z.1 + 1) ih C A2 (by omega) hp (by omega) e40 hd K1 (G1.oE C.pq A2.2.2.2.2.2.2.1) (by omega)
              rcases X with ⟨s2, l2, w1, w2, w3, w4⟩ | ⟨s2, w1, w2⟩
              · have CB2 := (C.go w2.2.2.2.2.2.2.1 w2.2.2.2.1).1
                rw [g1, w1, bN_s, x_176 CB2 ok, bI_s] at pre
                unfold b_15_137 at pre
                rw [nI_1] at pre
                rw [pre]
                exact postC ih C h61 hK hA hb k n (i + 1) _ s2 _ false l2 h (by omega) (by omega) w2 w3 (fun _ => w4)
              · rw [g1, w1, bN_s, x_176 w2.2.1.1 ok, bI_s] at pre
                unfold b_15_137 at pre
                rw [nI_1] at pre
                refine bad s2 _ (st_lt C.1 ok) ⟨?_, w2.2.1, w2.2.2⟩ pre
                rw [p2]
                exact jrun_no w2.1
        · rw [if_neg e40] at h
          obtain ⟨G, B⟩ := x_22a (d := d) (nt := z.1 + 1) (isM := false) C A1 (by omega) lb e3 (by omega) (decide_eq_false e40).symm
          obtain ⟨h1, pa, pb, pc, p1, p2, p3⟩ := pPost_pre hra k _ y h
          dsimp only at h1 p1 p2 p3
          have n61 : ¬ (E.1 (z.1 + 1 + 1)).1 = 61 := by
            intro g
            have := pPost_end h g
            rw [this] at h61
            exact h61 g
          cases hp : prtE E (t, al) (E.1 (z.1 + 1)).2.2.1 false with
          | none =>
            obtain ⟨s1, vv, y1, yv, y2, y3⟩ := B hp
            rw [y1, bI_s] at pre
            unfold b_15_137 at pre
            rw [nI_1] at pre
            refine bad s1 vv yv ⟨?_, y2, y3⟩ pre
            rw [p2]
            exact jrun_no2 A.1 (fld_no _ _ hp)
          | some p =>
            obtain ⟨s1, x1, fs, g1⟩ := G p hp
            rw [show b2 false = (0 : Int32) from rfl, if_pos rfl] at g1
            have A2 := A1.t58 C.pq x1 fs (show z.1 + 1 ≤ z.1 + 1 + 1 by omega)
            obtain ⟨kk, _, _, _, _, ok, _⟩ := prt_v C A.2.1 hp
            obtain ⟨s2, w1, w2⟩ := x_24 (d := d + 4) (nt := z.1 + 1) C A2 (by omega) n61 (by omega) (by omega) lb hp
            have CB2 := (C.go w2.2.2.2.2.2.2.1 w2.2.2.2.1).1
            rw [g1, w1, bN_s, x_176 CB2 ok, bI_s] at pre
            unfold b_15_137 at pre
            rw [nI_1] at pre
            rw [pre]
            exact postC ih C h61 hK hA hb k n (i + 1) _ s2 _ false _ h (by omega) (by omega) w2 (by show z.1 + 2 ≤ N; omega) (fun x => by cases x)
      · rw [if_neg e3] at h; cases h
    · rw [if_neg e46] at h
      cases h
      rw [if_neg e46, if_neg e20] at pre
      exact Or.inl ⟨s, t, al, l, pre, A, hzN, hs⟩
theorem pAtom_n3 {T : TT} {rv : Nat → Nat → PX} {o c kq : Nat} {z : PZ} (h : pAtom T rv o c kq = .inr z) : ¬ z.2.1 = 3 := by
  unfold pAtom at h
  by_cases e3 : (T c).1 = 3
  · rw [if_pos e3] at h; cases h; exact fun x => by cases x
  rw [if_neg e3] at h
  by_cases e4 : (T c).1 = 4
  · rw [if_pos e4] at h; cases h; exact fun x => by cases x
  rw [if_neg e4] at h
  by_cases e11 : (T c).1 = 11
  · rw [if_pos e11] at h; cases h; exact fun x => by cases x
  rw [if_neg e11] at h
  by_cases e12 : (T c).1 = 12
  · rw [if_pos e12] at h; cases h; exact fun x => by cases x
  rw [if_neg e12] at h
  by_cases e14 : (T c).1 = 14
  · rw [if_pos e14] at h
    cases hp : pKind T (c + 1) with
    | inl x => rw [hp] at h; cases h
    | inr c' => rw [hp] at h; cases h; exact fun x => by cases x
  rw [if_neg e14] at h
  by_cases e40 : (T c).1 = 40
  · rw [if_pos e40] at h
    by_cases o12 : o = 12
    · rw [if_pos o12] at h; cases h
    rw [if_neg o12] at h
    cases hp : rv (c + 1) kq with
    | inl x => rw [hp] at h; cases h
    | inr y =>
      rw [hp] at h
      dsimp only at h
      by_cases g : (T y.1).1 = 41
      · rw [if_pos g] at h; cases h; exact fun x => by cases x
      · rw [if_neg g] at h; cases h
  · rw [if_neg e40] at h; cases h
/-- codePost -/
theorem x_15 (ih : ¬ o = 12 → hE E N q (d + 5) 11 (prE E.1 (N + 1) w 0 (o + 1)) P3) (ih2 : ¬ o = 12 → hE E N q (d + 6) 11 (prE E.1 (N + 1) w 0 (o + 1)) P3) : hE E N q (d + 8) 15 (prE E.1 (N + 1) (w + 2) 4 o) P3 := by
  intro c kq cs s j z hc C f hz h61 hK hA hn
  have hT := C.TH
  have hra : ∀ c kq x, prE E.1 (N + 1) (w + 1) 6 o c kq = .inr x → c < x.1 := fun c kq x hx => (prE_len (T := E.1) (M := N + 1) (w + 1) 6 o c kq x (by omega) hx).1
  have pre : mjF (d + 8) 15 [.ref 75] (mjW0 s) = _ := e_15 (d := d + 7)
  unfold f_15 b_15_0 at pre
  rw [xg_75_0, xV_58, j_is hT f.1 hc, bI_s, xV_75] at pre
  rw [prE_4] at hz
  cases ha : prE E.1 (N + 1) (w + 1) 5 o c kq with
  | inl x => rw [ha] at hz; cases hz
  | inr x =>
    rw [ha] at hz
    dsimp only at hz
    obtain ⟨h1, pa, pb, pc, p1, p2, p3⟩ := pPost_pre hra _ _ z hz
    have a61 : ¬ (E.1 x.1).1 = 61 := by
      intro g
      have := pPost_end hz g
      rw [this] at h61
      exact h61 g
    have hx := (prE_len (T := E.1) (M := N + 1) (w + 1) 5 o c kq x (by omega) ha).1
    rw [prE_5] at ha
    have sh := pAtom_n3 ha
    have G := x_16 (d := d + 1) ih2 c kq cs s j x hc C f ha a61 ((KT.app (p1 ▸ hK)).1) ((AG.app (p3 ▸ hA)).1) (by omega)
    rcases G with ⟨s1, t, al, l, g1, g2, g3, g4⟩ | ⟨s1, vv, g1, g2, g3⟩
    · have g4 : al = decide ((E.1 c).1 = 12) := g4
      have eb : (if (E.1 c).1 = 12 then (1 : Int32) else 0) = b2 al := by
        rw [g4]
        by_cases g : (E.1 c).1 = 12
        · rw [if_pos g, decide_eq_true g]; rfl
        · rw [if_neg g, decide_eq_false g]; rfl
      rw [g1, bI_s, eb, show (0 : Int32) = nI 0 from rfl] at pre
      rw [pre]
      exact postC ih C h61 hK hA hn (N + 1) mjN 0 x s1 t al l hz (by omega) (by have := mjN_v; have := hT.2.1; omega) g2 g3 (fun e => absurd e sh)
    · rw [g1, bI_s, show mjN = 99999999 + 1 from rfl, n_15l g3.2.1] at pre
      refine Or.inr ⟨s1, vv, pre, g2, ?_, g3.2⟩
      rw [p2]
      exact jrun_no g3.1
end MJA32
