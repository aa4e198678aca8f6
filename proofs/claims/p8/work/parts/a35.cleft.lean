/-! ===== the Coder: what is left of = ===== -/
section MJA35
variable {E : EV} {d N q c t n e k u v i m o w cs c0 kq nt D me : Nat} {s s' s0 : mjSt3} {j j0 : JS} {y z : PZ} {p : Nat × Nat} {os : List Row} {rs : List Nat} {l : List Ins} {al isM : Bool}
/-- one part of a POST -/
theorem postS (ih : ¬ o = 12 → hE E N q (d + 5) 11 (prE E.1 (N + 1) w 0 (o + 1)) P3) (C : CE E N q s0 j0 cs) (hK : KT E.2.2.2.1 kq y.2.2.1) (hA : AG s0 y.2.2.2.2) (hb : cs + (y.1 - c0) ≤ 3090) (h : pPost E.1 (prE E.1 (N + 1) (w + 1) 6 o) kq (k + 1) z = .inr y) (hi : i + (k + 1) = N + 1) (hk : k < n) (A : atC E N q s0 c0 cs j0 z.2.2.2.1 s z.1 t al l) (hzN : z.1 ≤ N) (hpt : (E.1 z.1).1 = 20 ∨ (E.1 z.1).1 = 46) (hnf : (E.1 z.1).1 = 46 → ¬ (E.1 (z.1 + 2)).1 = 61) : (∃ z' s' t' l', L_15_17 (mjF (d + 7)) (n + 1) 75 (b2 al) (tyI t) (nI i) (mjW0 s) = L_15_17 (mjF (d + 7)) n 75 (b2 false) (tyI t') (nI (i + 1)) (mjW0 s') ∧ pPost E.1 (prE E.1 (N + 1) (w + 1) 6 o) kq k z' = .inr y ∧ atC E N q s0 c0 cs j0 z'.2.2.2.1 s' z'.1 t' false l' ∧ z'.1 ≤ N ∧ ¬ (z'.2.1 = 2 ∧ (E.1 z'.1).1 = 61)) ∨ (∃ s' vv, L_15_17 (mjF (d + 7)) (n + 1) 75 (b2 al) (tyI t) (nI i) (mjW0 s) = some (some (.int (tyI vv)), mjW0 s') ∧ vv < 524290 ∧ ∃ z', pPost E.1 (prE E.1 (N + 1) (w + 1) 6 o) kq k z' = .inr y ∧ ¬ (z'.2.1 = 2 ∧ (E.1 z'.1).1 = 61) ∧ jrun E z'.2.2.2.1 j0 = none ∧ BC E.1 N q E.2.1 E.2.2.1 s' ∧ oC q s0 s') := by
  have hra : ∀ c kq x, prE E.1 (N + 1) (w + 1) 6 o c kq = .inr x → c < x.1 := fun c kq x hx => (prE_len (T := E.1) (M := N + 1) (w + 1) 6 o c kq x (by omega) hx).1
  have Cs : CE E N q s j0 (cs + l.length) := C.go A.2.2.2.2.2.2.1 A.2.2.2.1
  have hq' : q = 2 ∨ q = 30 := C.pq
  have hT := Cs.TH
  have h0 := hT.2.2.1
  have hN := hT.2.1
  have hn := C.1.hn
  have f := A.2.2.1
  have tl := A.2.1.lt hn
  have A8 := A.2.2.2.2.2.2.2
  have zy := (pPost_pre hra (k + 1) z y h).1
  have lb : cs + l.length ≤ 3090 := by omega
  have pre : L_15_17 (mjF (d + 7)) (n + 1) 75 (b2 al) (tyI t) (nI i) (mjW0 s) = _ := L15_S _ _ _ _ _ _ _
  unfold b_15_17 at pre
  rw [xg_75_0, xV_58, sz0 hT f.1 hzN, bI_s, if_neg (show ¬ nI (N + 1) ≤ nI i from nI_ge (by omega) (by omega)), xg_75_0, xV_58, j_is hT f.1 hzN, bI_s, i01, xg_75_0, xV_58, j_is hT f.1 hzN, bI_s, i01] at pre
  unfold pPost at h
  have xg : o58 s (tkGo s (z.1 + 1)) := o58.go _ _
  have C1 : CE E N q (tkGo s (z.1 + 1)) j0 (cs + l.length) := Cs.go xg.oe (by rw [xg.r (by omega)]; exact A.2.2.2.1)
  have f1 := f.go (z.1 + 1)
  have bad : ∀ (s1 : mjSt3) (vv : Nat), vv < 524290 → BC E.1 N q E.2.1 E.2.2.1 s1 → oC q s0 s1 → L_15_17 (mjF (d + 7)) (n + 1) 75 (b2 al) (tyI t) (nI i) (mjW0 s) = L_15_17 (mjF (d + 7)) n 75 0 (tyI vv) (nI (i + 1)) (mjW0 s1) → L_15_17 (mjF (d + 7)) (n + 1) 75 (b2 al) (tyI t) (nI i) (mjW0 s) = some (some (.int (tyI vv)), mjW0 s1) := by
    intro s1 vv hv hb1 hb2 pr
    obtain ⟨n', rfl⟩ : ∃ n', n = n' + 1 := ⟨n - 1, by omega⟩
    rw [n_15l hb1] at pr
    exact pr
  by_cases e20 : (E.1 z.1).1 = 20
  · rw [if_pos e20] at h
    have zN := lt_z h0 hzN e20 (by decide)
    rw [if_neg (by rw [e20]; decide), if_pos e20] at pre
    cases hp : pKind E.1 (z.1 + 1) with
    | inl x => rw [hp] at h; cases h
    | inr c' =>
      rw [hp] at h
      dsimp only at h
      obtain ⟨KD, ec⟩ := pKind_ok h0 (show z.1 + 1 ≤ N by omega) hp
      have cl := pKind_len hp
      have kl := KD.2.2.2.1
      obtain ⟨h1, pa, pb, pc, p1, p2, p3⟩ := pPost_pre hra k _ y h
      dsimp only at h1 p1 p2 p3
      have ha : E.2.2.2.1 (nI (kq + z.2.2.1.length)) = z.1 + 1 := by
        have K1 := (KT.app (show KT E.2.2.2.1 kq ((z.2.2.1 ++ [z.1 + 1]) ++ pa) from p1 ▸ hK)).1
        exact (KT.app K1).2 0 (z.1 + 1) rfl
      obtain ⟨G, B⟩ := x_kd (d := d + 4) C1 (by omega) f1 KD ha
      unfold b_15_52 at pre
      rw [xg_75_0, xV_58, j_now hT f.1 hzN, bI_s, xg_75_0, xV_58, j_skip hT f zN, bN_s, xg_75_0, xV_58, j_kind C1.TH f1.1 (by omega) hzN, bI_s, if_neg (show ¬ (E.1 z.1).1 = 46 by rw [e20]; decide), xg_75_2, xg_75_6, C1.2.1, xV_71] at pre
      have ar := as_row (E := E) (j0 := j0) (t := t) (al := al) (E.1 z.1).2.1 (nI (kq + z.2.2.1.length))
      cases hk' : kdE E (nI (kq + z.2.2.1.length)) with
      | none =>
        rw [hk'] at ar
        obtain ⟨kk, s1, kl2, y1, y2, y3⟩ := B hk'
        obtain ⟨s2, z1, z2, z3, z4⟩ := x_26 (d := d + 5) (t := z.1) y2.1 (GB.ob y2.2.1) hzN tl
        have b2s : BC E.1 N q E.2.1 E.2.2.1 s2 := by
          by_cases t0 : t = 0
          · exact BC.of58 y2.1 z2 (z4 t0) y2.2.2.1 y2.2.2.2
          · rw [z3 t0]; exact y2
        obtain ⟨s3, n', w1, w2, w3, w4, w5⟩ := n_emit (d := d + 6) b2s 15 (nI kk) (E.1 z.1).2.1
        rw [y1, bI_s, xV_75, z1, bN_s, xg_75_5, b2s.1.2.2.2.2.2.2.2, xg_75_0, xV_58, j_place b2s.1.1.1.1 b2s.2.1.1 (Nat.le_refl N) hzN, bI_s, ycV C.pq, w1, bI_s] at pre
        unfold b_15_137 at pre
        rw [nI_1] at pre
        have fr := A.2.2.2.2.2.2.1.C.tr (xg.C.tr (y3.C.tr (z2.C.tr w4)))
        refine Or.inr ⟨s3, kk + 2, bad s3 (kk + 2) (by omega) w3 fr pre, by omega, _, h, (fun x => by cases x.1), ?_, w3, fr⟩
        rw [jrun_app, A.1]
        dsimp only
        rw [jrun_1, ar]
      | some kk =>
        have vk := kd_E C1 ha hk'
        have vkl := vk.lt hn
        rw [hk'] at ar
        dsimp only at ar
        have ff := f1.go (z.1 + 1 + 2 + 2 * cntO E.1 6 (z.1 + 1 + 2))
        have x2 : o58 s (tkGo (tkGo s (z.1 + 1)) (z.1 + 1 + 2 + 2 * cntO E.1 6 (z.1 + 1 + 2))) := xg.tr (o58.go _ _)
        rw [← ec] at ff x2
        have C2 : CE E N q (tkGo (tkGo s (z.1 + 1)) c') j0 (cs + l.length) := Cs.go x2.oe (by rw [x2.r (by omega)]; exact A.2.2.2.1)
        obtain ⟨s2, z1, z2, z3, z4⟩ := x_26 (d := d + 5) (t := z.1) C2.1 (GB.of ff (by omega)) hzN tl
        rw [G kk hk', ← ec, bI_s, xV_75, z1, bN_s] at pre
        by_cases t0 : t = 0
        · rw [if_pos t0] at ar
          have b2s : BC E.1 N q E.2.1 E.2.2.1 s2 := C2.bad (by omega) z2 (z4 t0)
          obtain ⟨s3, n', w1, w2, w3, w4, w5⟩ := n_emit (d := d + 6) b2s 15 (nI kk) (E.1 z.1).2.1
          rw [xg_75_5, b2s.1.2.2.2.2.2.2.2, xg_75_0, xV_58, j_place b2s.1.1.1.1 b2s.2.1.1 (Nat.le_refl N) hzN, bI_s, ycV C.pq, w1, bI_s] at pre
          unfold b_15_137 at pre
          rw [nI_1] at pre
          have fr := A.2.2.2.2.2.2.1.C.tr (x2.C.tr (z2.C.tr w4))
          refine Or.inr ⟨s3, kk + 2, bad s3 (kk + 2) (by omega) w3 fr pre, by omega, _, h, (fun x => by cases x.1), ?_, w3, fr⟩
          rw [jrun_app, A.1]
          dsimp only
          rw [jrun_1, ar]
        · rw [if_neg t0] at ar
          rw [z3 t0] at pre
          have A2 := A.t58 C.pq x2 ff (show z.1 ≤ c' by omega)
          obtain ⟨s3, w1, w2, w3⟩ := A2.put (d := d + 6) C 15 (nI kk) (E.1 z.1).2.1 ar (Or.inr (Or.inr ⟨kk, rfl, vk⟩)) (by omega) (by omega)
          rw [xg_75_5, C2.1.2.2.2.2.2.2.2, xg_75_0, xV_58, j_place C2.TH ff.1 (by omega) hzN, bI_s, ycV C.pq, w1, bI_s] at pre
          unfold b_15_137 at pre
          rw [nI_1] at pre
          exact Or.inl ⟨_, s3, kk + 2, _, pre, h, w2, (by show c' ≤ N; omega), (fun x => by cases x.1)⟩
  rw [if_neg e20] at h
  by_cases e46 : (E.1 z.1).1 = 46
  · rw [if_pos e46] at h
    have zN := lt_z h0 hzN e46 (by decide)
    rw [if_pos e46] at pre
    unfold b_15_52 at pre
    rw [xg_75_0, xV_58, j_now hT f.1 hzN, bI_s, xg_75_0, xV_58, j_skip hT f zN, bN_s, xg_75_0, xV_58, j_kind C1.TH f1.1 (by omega) hzN, bI_s, if_pos e46, xV_75] at pre
    by_cases e3 : (E.1 (z.1 + 1)).1 = 3
    · rw [if_pos e3] at h
      have z1N := lt_z h0 (show z.1 + 1 ≤ N by omega) e3 (by decide)
      have A1 := A.t58 C.pq xg f1 (show z.1 ≤ z.1 + 1 by omega)
      by_cases e40 : (E.1 (z.1 + 2)).1 = 40
      · rw [if_pos e40] at h
        obtain ⟨G, B⟩ := x_22a (d := d) (nt := z.1 + 1) (isM := true) C A1 (by omega) lb e3 (by omega) (decide_eq_true e40).symm
        cases hd : prE E.1 (N + 1) (w + 1) 6 o (z.1 + 2) (kq + z.2.2.1.length) with
        | inl x => rw [hd] at h; cases h
        | inr x =>
          rw [hd] at h
          dsimp only at h
          have zx := hra _ _ _ hd
          obtain ⟨h1, pa, pb, pc, p1, p2, p3⟩ := pPost_pre hra k _ y h
          dsimp only at h1 p1 p2 p3
          rw [prE_6] at hd
          have K1 := (KT.app (KT.app (show KT E.2.2.2.1 kq ((z.2.2.1 ++ x.2.2.1) ++ pa) from p1 ▸ hK)).1).2
          have G1 : AG s0 x.2.2.2.2 := (AG.app (AG.app (show AG s0 ((z.2.2.2.2 ++ x.2.2.2.2) ++ pc) from p3 ▸ hA)).1).2
          cases hp : prtE E (t, al) (E.1 (z.1 + 1)).2.2.1 true with
          | none =>
            obtain ⟨s1, vv, y1, yv, y2, y3⟩ := B hp
            rw [y1, bI_s] at pre
            unfold b_15_137 at pre
            rw [nI_1] at pre
            refine Or.inr ⟨s1, vv, bad s1 vv yv y2 y3 pre, yv, _, h, (fun x => by cases x.1), ?_, y2, y3⟩
            have ej : ∃ cn r, x.2.2.2.1 = oAsk E.1 (z.1 + 2) cn :: r := by
              unfold pCall at hd
              by_cases o12 : o = 12
              · rw [if_pos o12] at hd; cases hd
              · rw [if_neg o12] at hd
                by_cases g : (E.1 (z.1 + 2 + 1)).1 = 41
                · rw [if_pos g] at hd; cases hd; exact ⟨_, _, rfl⟩
                · rw [if_neg g] at hd
                  cases hpa : pArgs E.1 (prE E.1 (N + 1) w 0 (o + 1)) (kq + z.2.2.1.length) 7 0 (z.1 + 2 + 1, 0, [], [], []) with
                  | inl e => rw [hpa] at hd; cases hd
                  | inr y' => rw [hpa] at hd; cases hd; exact ⟨_, _, rfl⟩
            obtain ⟨cn, r, er⟩ := ej
            show jrun E (z.2.2.2.1 ++ x.2.2.2.1) j0 = none
            rw [er]
            exact jrun_no3 A.1 (ask_no _ _ _ hp)
          | some p =>
            obtain ⟨s1, x1, fs, g1⟩ := G p hp
            rw [show b2 true = (1 : Int32) from rfl, if_neg (by decide)] at g1
            have A2 := A1.t58 C.pq x1 fs (show z.1 + 1 ≤ z.1 + 1 + 1 by omega)
            obtain ⟨kk, _, _, _, _, ok, _⟩ := prt_v C A.2.1 hp
            have X := x_23 (d := d) (nt := z.1 + 1) ih C A2 (by omega) hp (by omega) e40 hd K1 (G1.oE C.pq A2.2.2.2.2.2.2.1) (by omega)
            rcases X with ⟨s2, l2, w1, w2, w3, w4⟩ | ⟨s2, w1, w2⟩
            · have CB2 := (C.go w2.2.2.2.2.2.2.1 w2.2.2.2.1).1
              rw [g1, w1, bN_s, x_176 CB2 ok, bI_s] at pre
              unfold b_15_137 at pre
              rw [nI_1] at pre
              exact Or.inl ⟨_, s2, _, l2, pre, h, w2, w3, (fun x => by cases x.1)⟩
            · rw [g1, w1, bN_s, x_176 w2.2.1.1 ok, bI_s] at pre
              unfold b_15_137 at pre
              rw [nI_1] at pre
              refine Or.inr ⟨s2, _, bad s2 _ (st_lt C.1 ok) w2.2.1 w2.2.2 pre, st_lt C.1 ok, _, h, (fun x => by cases x.1), ?_, w2.2.1, w2.2.2⟩
              exact w2.1
      · rw [if_neg e40] at h
        obtain ⟨G, B⟩ := x_22a (d := d) (nt := z.1 + 1) (isM := false) C A1 (by omega) lb e3 (by omega) (decide_eq_false e40).symm
        obtain ⟨h1, pa, pb, pc, p1, p2, p3⟩ := pPost_pre hra k _ y h
        dsimp only at h1 p1 p2 p3
        have n61 : ¬ (E.1 (z.1 + 1 + 1)).1 = 61 := hnf e46
        cases hp : prtE E (t, al) (E.1 (z.1 + 1)).2.2.1 false with
        | none =>
          obtain ⟨s1, vv, y1, yv, y2, y3⟩ := B hp
          rw [y1, bI_s] at pre
          unfold b_15_137 at pre
          rw [nI_1] at pre
          refine Or.inr ⟨s1, vv, bad s1 vv yv y2 y3 pre, yv, _, h, (fun x => hnf e46 x.2), ?_, y2, y3⟩
          rw [jrun_app, A.1]
          dsimp only
          rw [jrun_1, fld_no _ _ hp]
        | some p =>
          obtain ⟨s1, x1, fs, g1⟩ := G p hp
          rw [show b2 false = (0 : Int32) from rfl, if_pos rfl] at g1
          have A2 := A1.t58 C.pq x1 fs (show z.1 + 1 ≤ z.1 + 1 + 1 by omega)
          obtain ⟨kk, _, _, _, _, ok, _⟩ := prt_v C A.2.1 hp
          obtain ⟨s2, w1, w2⟩ := x_24 (d := d + 4) (nt := z.1 + 1) C A2 (by omega) n61 (by omega) (by omega) lb hp
          have CB2 := (C.go w2.2.2.2.2.2.2.1 w2.2.2.2.1).1
          rw [g1, w1, bN_s, x_176 CB2 ok, bI_s] at pre
          unfold b_15_137 at pre
          rw [nI_1] at pre
          exact Or.inl ⟨_, s2, _, _, pre, h, w2, (by show z.1 + 2 ≤ N; omega), (fun x => hnf e46 x.2)⟩
    · rw [if_neg e3] at h; cases h
  · rcases hpt with g | g
    · exact absurd g e20
    · exact absurd g e46
end MJA35
