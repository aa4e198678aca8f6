/-! ===== the Coder: a FIELD left of = ===== -/
def oU (q : Nat) : mjSt3 → mjSt3 → Prop := offG (fun h j => c58 h j ∨ (h = q + 24 ∧ j = 3) ∨ (q + 25 ≤ h ∧ h ≤ q + 27) ∨ (h = 75 ∧ 13 ≤ j ∧ j ≤ 16)) (fun _ _ => False)
/-- the TYPE and the number of what is left of =; the TYPE of its object -/
def jLf (j : JS) (t f : Nat) (rs : List Nat) : JS := ((t, false) :: j.1, j.2.1, j.2.2.1, j.2.2.2.1, j.2.2.2.2.1, j.2.2.2.2.2.1, f, rs)
def gLf (E : EV) (N q : Nat) (s0 : mjSt3) (c0 cs : Nat) (j0 : JS) (os : List Row) (u : mjU) (c' : Nat) : Prop := (∃ s t f t0 l, u = some (some (.int (tyI t)), mjW0 s) ∧ jrun E (oLeft 2 os) j0 = some (jLf j0 t f (t0 :: jRS j0), l) ∧ vT E.2.1 t ∧ fne s c' ∧ s.1 (q + 24) 3 = nI (cs + l.length) ∧ CL q s cs l ∧ CP q cs s0 s ∧ oU q s0 s ∧ l.length + c0 + 2 ≤ c' ∧ c' ≤ N ∧ s.1 75 13 = 4 ∧ s.1 75 14 = nI f ∧ s.1 75 15 = (oLast os).2.1) ∨ (∃ s v, u = some (some (.int (tyI v)), mjW0 s) ∧ v < 524290 ∧ jrun E (oLeft 2 os) j0 = none ∧ BC E.1 N q E.2.1 E.2.2.1 s ∧ oC q s0 s)
theorem oLeft_c (sh : Int32) (a : List Row) (r : Row) : oLeft sh (a ++ [r]) = a ++ [(if sh = 1 then 15 else 16, r.2)] ∧ oLast (a ++ [r]) = r := by
  unfold oLeft oLast
  rw [List.dropLast_concat, List.getLastD_concat]
  exact ⟨rfl, rfl⟩
theorem pPost_last {T : TT} {ra : Nat → Nat → PX} {kq : Nat} : ∀ (k : Nat) (z y : PZ), pPost T ra kq k z = .inr y → y.2.1 = 2 → (T y.1).1 = 61 → ¬ (z.2.1 = 2 ∧ (T z.1).1 = 61) → ∃ b r, y.2.2.2.1 = z.2.2.2.1 ++ (b ++ [r])
  | 0, z, y, h, h2, h61, hn => by cases h; exact absurd ⟨h2, h61⟩ hn
  | k + 1, z, y, h, h2, h61, hn => by
    unfold pPost at h
    by_cases g : (T z.1).1 = 20
    · rw [if_pos g] at h
      cases hd : pKind T (z.1 + 1) with
      | inl e => rw [hd] at h; cases h
      | inr c' =>
        rw [hd] at h
        obtain ⟨b, r, e⟩ := pPost_last k _ y h h2 h61 (fun x => by cases x.1)
        exact ⟨_, r, by rw [e, List.append_assoc, ← List.append_assoc _ b]⟩
    · rw [if_neg g] at h
      by_cases g2 : (T z.1).1 = 46
      · rw [if_pos g2] at h
        by_cases g3 : (T (z.1 + 1)).1 = 3
        · rw [if_pos g3] at h
          by_cases g4 : (T (z.1 + 2)).1 = 40
          · rw [if_pos g4] at h
            cases hd : ra (z.1 + 2) (kq + z.2.2.1.length) with
            | inl e => rw [hd] at h; cases h
            | inr x =>
              rw [hd] at h
              obtain ⟨b, r, e⟩ := pPost_last k _ y h h2 h61 (fun x => by cases x.1)
              exact ⟨_, r, by rw [e, List.append_assoc, ← List.append_assoc _ b]⟩
          · rw [if_neg g4] at h
            by_cases g5 : (T (z.1 + 2)).1 = 61
            · have := pPost_end h g5
              rw [this]
              exact ⟨[], _, rfl⟩
            · obtain ⟨b, r, e⟩ := pPost_last k _ y h h2 h61 (fun x => g5 x.2)
              exact ⟨_, r, by rw [e, List.append_assoc, ← List.append_assoc _ b]⟩
        · rw [if_neg g3] at h; cases h
      · rw [if_neg g2] at h
        cases h
        exact absurd ⟨h2, h61⟩ hn
section MJA36
variable {E : EV} {d N q c t n e k u v i m o w cs c0 kq nt D me : Nat} {s s' s0 : mjSt3} {j j0 : JS} {y z : PZ} {p : Nat × Nat} {os : List Row} {rs : List Nat} {l : List Ins} {al isM : Bool}
theorem oE.U (x : oE q s s') : oU q s s' := offG.mono x (fun a b h => by
  rcases h with h | h | h
  · exact Or.inl h
  · exact Or.inr (Or.inl h)
  · exact Or.inr (Or.inr (Or.inl h))) (fun _ _ h => h.elim)
theorem oU.C (x : oU q s s') : oC q s s' := offG.mono x (fun a b h => by
  rcases h with h | h | h | h
  · exact Or.inl h
  · exact Or.inr (Or.inr (Or.inr (Or.inr (Or.inl h))))
  · exact Or.inr (Or.inr (Or.inr (Or.inr (Or.inr (Or.inl h)))))
  · exact Or.inr (Or.inl ⟨h.1, by omega, by omega⟩)) (fun _ _ h => h.elim)
theorem oU.r (x : oU q s s') {h : Nat} (hh : ¬ (h = 58 ∨ h = 75 ∨ (q + 24 ≤ h ∧ h ≤ q + 27))) : s'.1 h = s.1 h := funext fun j => x.1 h j (by unfold c58; omega)
theorem oU.f (hq : isP q) (x : oU q s s') {j : Nat} (hh : ¬ (13 ≤ j ∧ j ≤ 16)) : s'.1 75 j = s.1 75 j := x.1 75 j (by
  have hq : q = 2 ∨ q = 30 := hq
  unfold c58; omega)
theorem oU.lg (x : oU q s s') : s'.2 = s.2 := by
  have a : s'.2.1 = s.2.1 := funext fun h => funext fun j => x.2.1 h j (fun e => e)
  exact Prod.ext a x.2.2
theorem VSr.oU {T : TT} {L : List CD} {vs : List VE} {td : Nat} (V : VSr T N L vs td s) (hq : isP q) (x : oU q s s') : VSr T N L vs td s' := by
  have hq' : q = 2 ∨ q = 30 := hq
  unfold VSr
  rw [x.f hq (by omega), x.f hq (by omega), x.r (by omega), x.r (by omega), x.lg]
  exact V
theorem CE.goU (C : CE E N q s j cs) (x : oU q s s') (h : s'.1 (q + 24) 3 = nI n) : CE E N q s' j n := by
  have hq : q = 2 ∨ q = 30 := C.pq
  exact ⟨C.1.oC x.C, by rw [x.f C.pq (by omega)]; exact C.2.1, C.2.2.1, C.2.2.2.1.oU C.pq x, h⟩
theorem AG.oU {l : List (Nat × Nat)} (A : AG s l) (hq : isP q) (x : oU q s s') : AG s' l := by
  have hq' : q = 2 ∨ q = 30 := hq
  unfold AG; rw [x.r (by omega)]; exact A
/-- aim -/
theorem x_25 (a b c : Int32) : ∃ s', mjF (d + 1) 25 [.ref 75, .int a, .int b, .int c] (mjW0 s) = some (none, mjW0 s') ∧ s'.1 75 13 = a ∧ s'.1 75 14 = b ∧ s'.1 75 15 = c ∧ (∀ j, ¬ (13 ≤ j ∧ j ≤ 15) → s'.1 75 j = s.1 75 j) ∧ (∀ h, ¬ h = 75 → s'.1 h = s.1 h) ∧ s'.2 = s.2 := by
  obtain ⟨z1, h1⟩ : ∃ z, z = uI s 75 (upd (s.1 75) 13 a) := ⟨_, rfl⟩
  obtain ⟨z2, h2⟩ : ∃ z, z = uI z1 75 (upd (z1.1 75) 14 b) := ⟨_, rfl⟩
  obtain ⟨z3, h3⟩ : ∃ z, z = uI z2 75 (upd (z2.1 75) 15 c) := ⟨_, rfl⟩
  have e3 : ∀ j, z3.1 75 j = if j = 15 then c else if j = 14 then b else if j = 13 then a else s.1 75 j := by
    intro j
    rw [h3, uI_same, upd_g, h2, uI_same, upd_g, h1, uI_same, upd_g]
  refine ⟨z3, ?_, by rw [e3]; rfl, by rw [e3]; rfl, by rw [e3]; rfl, fun j hj => ?_, fun h hh => ?_, by rw [h3, h2, h1]; rfl⟩
  · rw [e_25]
    unfold f_25 b_25_0
    rw [xp_75_13, ← h1, xp_75_14, ← h2, xp_75_15, ← h3]
  · rw [e3, if_neg (by omega), if_neg (by omega), if_neg (by omega)]
  · rw [h3, uI_ne _ _ _ _ hh, h2, uI_ne _ _ _ _ hh, h1, uI_ne _ _ _ _ hh]
theorem oU.aim (hj : ∀ j, ¬ (13 ≤ j ∧ j ≤ 16) → s'.1 75 j = s.1 75 j) (hh : ∀ h, ¬ h = 75 → s'.1 h = s.1 h) (h2 : s'.2 = s.2) : oU q s s' := by
  refine ⟨fun h k hk => ?_, fun h k _ => by rw [h2], by rw [h2]⟩
  by_cases e : h = 75
  · rw [e]
    exact hj k (fun g => hk (Or.inr (Or.inr (Or.inr ⟨e, g.1, g.2⟩))))
  · rw [hh h e]
theorem L15_x (hT : TH E.1 N s) (f : fne s c) (hc : c ≤ N) (h1 : ¬ (E.1 c).1 = 46) (h2 : ¬ (E.1 c).1 = 20) (a b e : Int32) : L_15_17 (mjF (d + 1)) (n + 1) 75 a b e (mjW0 s) = some (some (.int b), mjW0 s) := by
  rw [L15_S]
  unfold b_15_17 b_15_145
  rw [xg_75_0, xV_58, sz0 hT f.1 hc, bI_s, xg_75_0, xV_58, j_is hT f.1 hc, bI_s, i01, if_neg h1, xg_75_0, xV_58, j_is hT f.1 hc, bI_s, i01, if_neg h2, ite_self]
theorem lf_row (x : Int32) (nm : Int64) : jrow E (16, x, 0, 0, nm) (jE j0 t al) = match prtE E (t, al) nm false with
    | none => none
    | some p => some (jLf j0 (sty (nmL E.2.1) (tyM E.1 E.2.1 p.1) p.2) (numM E.1 E.2.1 p.1) (t :: jRS j0), []) := rfl
/-- the loop of codePost, left of = -/
theorem postL (ih : ¬ o = 12 → hE E N q (d + 5) 11 (prE E.1 (N + 1) w 0 (o + 1)) P3) (C : CE E N q s0 j0 cs) (h61 : (E.1 y.1).1 = 61) (h2 : y.2.1 = 2) (hK : KT E.2.2.2.1 kq y.2.2.1) (hA : AG s0 y.2.2.2.2) (hb : cs + (y.1 - c0) ≤ 3090) : ∀ (k n i : Nat) (z : PZ) (s : mjSt3) (t : Nat) (al : Bool) (l : List Ins), pPost E.1 (prE E.1 (N + 1) (w + 1) 6 o) kq k z = .inr y → i + k = N + 1 → k < n → atC E N q s0 c0 cs j0 z.2.2.2.1 s z.1 t al l → z.1 ≤ N → ¬ (z.2.1 = 2 ∧ (E.1 z.1).1 = 61) → gLf E N q s0 c0 cs j0 y.2.2.2.1 (L_15_17 (mjF (d + 7)) n 75 (b2 al) (tyI t) (nI i) (mjW0 s)) y.1
  | k, 0, i, z, s, t, al, l, h, hi, hk, A, hzN, hs => by omega
  | 0, n + 1, i, z, s, t, al, l, h, hi, hk, A, hzN, hs => by
    cases h
    exact absurd ⟨h2, h61⟩ hs
  | k + 1, n + 1, i, z, s, t, al, l, h, hi, hk, A, hzN, hs => by
    by_cases pt : (E.1 z.1).1 = 20 ∨ (E.1 z.1).1 = 46
    · by_cases fin : (E.1 z.1).1 = 46 ∧ (E.1 (z.1 + 2)).1 = 61
      · obtain ⟨e46, e61⟩ := fin
        have Cs : CE E N q s j0 (cs + l.length) := C.go A.2.2.2.2.2.2.1 A.2.2.2.1
        have hq' : q = 2 ∨ q = 30 := C.pq
        have hT := Cs.TH
        have h0 := hT.2.2.1
        have hN := hT.2.1
        have f := A.2.2.1
        have zN := lt_z h0 hzN e46 (by decide)
        have A8 := A.2.2.2.2.2.2.2
        unfold pPost at h
        rw [if_neg (by rw [e46]; decide), if_pos e46] at h
        by_cases e3 : (E.1 (z.1 + 1)).1 = 3
        · rw [if_pos e3, if_neg (by rw [e61]; decide)] at h
          have z1N := lt_z h0 (show z.1 + 1 ≤ N by omega) e3 (by decide)
          have ey := pPost_end h e61
          rw [ey] at hb ⊢
          dsimp only at hb ⊢
          obtain ⟨ol, oa⟩ := oLeft_c 2 z.2.2.2.1 (10, (E.1 (z.1 + 1)).2.1, 0, 0, (E.1 (z.1 + 1)).2.2.1)
          have lb : cs + l.length ≤ 3090 := by omega
          have xg : o58 s (tkGo s (z.1 + 1)) := o58.go _ _
          have C1 : CE E N q (tkGo s (z.1 + 1)) j0 (cs + l.length) := Cs.go xg.oe (by rw [xg.r (by omega)]; exact A.2.2.2.1)
          have f1 := f.go (z.1 + 1)
          have A1 := A.t58 C.pq xg f1 (show z.1 ≤ z.1 + 1 by omega)
          obtain ⟨n', rfl⟩ : ∃ n', n = n' + 1 := ⟨n - 1, by omega⟩
          have pre : L_15_17 (mjF (d + 7)) (n' + 1 + 1) 75 (b2 al) (tyI t) (nI i) (mjW0 s) = _ := L15_S _ _ _ _ _ _ _
          unfold b_15_17 at pre
          rw [xg_75_0, xV_58, sz0 hT f.1 hzN, bI_s, if_neg (show ¬ nI (N + 1) ≤ nI i from nI_ge (by omega) (by omega)), xg_75_0, xV_58, j_is hT f.1 hzN, bI_s, i01, if_pos e46] at pre
          unfold b_15_52 at pre
          rw [xg_75_0, xV_58, j_now hT f.1 hzN, bI_s, xg_75_0, xV_58, j_skip hT f zN, bN_s, xg_75_0, xV_58, j_kind C1.TH f1.1 (by omega) hzN, bI_s, if_pos e46, xV_75] at pre
          obtain ⟨G, B⟩ := x_22a (d := d) (nt := z.1 + 1) (isM := false) C A1 (by omega) lb e3 (by omega) (decide_eq_false (by rw [show z.1 + 1 + 1 = z.1 + 2 from rfl, e61]; decide)).symm
          have lr := lf_row (E := E) (j0 := j0) (t := t) (al := al) (E.1 (z.1 + 1)).2.1 (E.1 (z.1 + 1)).2.2.1
          have jz : jrun E (oLeft 2 (z.2.2.2.1 ++ [(10, (E.1 (z.1 + 1)).2.1, 0, 0, (E.1 (z.1 + 1)).2.2.1)])) j0 = match jrow E (16, (E.1 (z.1 + 1)).2.1, 0, 0, (E.1 (z.1 + 1)).2.2.1) (jE j0 t al) with
              | none => none
              | some (j2, c2) => some (j2, l ++ c2) := by
            rw [ol, jrun_app, A.1]
            dsimp only
            rw [jrun_1]
            rfl
          cases hp : prtE E (t, al) (E.1 (z.1 + 1)).2.2.1 false with
          | none =>
            rw [hp] at lr
            rw [lr] at jz
            obtain ⟨s1, vv, y1, yv, y2, y3⟩ := B hp
            rw [y1, bI_s] at pre
            unfold b_15_137 at pre
            rw [n_15l y2] at pre
            exact Or.inr ⟨s1, vv, pre, yv, jz, y2, y3⟩
          | some p =>
            rw [hp] at lr
            dsimp only at lr
            rw [lr] at jz
            obtain ⟨s1, x1, fs, g1⟩ := G p hp
            rw [show b2 false = (0 : Int32) from rfl, if_pos rfl] at g1
            have A2 := A1.t58 C.pq x1 fs (show z.1 + 1 ≤ z.1 + 1 + 1 by omega)
            obtain ⟨kk, _, _, _, _, ok, _⟩ := prt_v C A.2.1 hp
            have C2 := C.go A2.2.2.2.2.2.2.1 A2.2.2.2.1
            have d3 := C2.1.2.1.2.2.1
            have hm := ok.1
            obtain ⟨s2, w1, w2, w3, w4, w5, w6, w7⟩ := x_25 (d := d + 4) (s := s1) 4 (nI (numM E.1 E.2.1 p.1)) (E.1 (z.1 + 1)).2.1
            have e24 : mjF (d + 6) 24 [.ref 75, .int (nI p.1), .int (nI (z.1 + 1))] (mjW0 s1) = some (none, mjW0 s2) := by
              rw [e_24]
              unfold f_24 b_24_0
              rw [xg_75_0, xV_58, j_place C2.TH fs.1 (by omega) (by omega), bI_s, xg_75_0, xV_58, j_is C2.TH fs.1 (by omega), bI_s, i01, if_pos e61, xg_75_4, C2.1.2.2.2.2.2.2.1, ymg_5 C.pq, wya_19 C.pq (by omega), (C2.1.1.2.2.2.2.2.1 p.1 hm).1, xV_75, w1, bN_s]
            have u2 : oU q s1 s2 := oU.aim (fun j hj => w5 j (by omega)) w6 w7
            have uu : oU q s0 s2 := A2.2.2.2.2.2.2.1.U.tr u2
            have sz : s2.1 (q + 24) 3 = nI (cs + l.length) := by rw [w6 _ (by omega)]; exact A2.2.2.2.1
            have C3 := C.goU uu sz
            have f2 : fne s2 (z.1 + 2) := ⟨by rw [w6 _ (by omega)]; exact fs.1, by rw [w6 _ (by omega)]; exact fs.2⟩
            have cp : CP q (cs + l.length) s1 s2 := fun j _ => by
              rw [w6 _ (by omega), w6 _ (by omega), w6 _ (by omega)]
              exact ⟨rfl, rfl, rfl⟩
            have tv : vT E.2.1 (tyM E.1 E.2.1 p.1) := ty_v C.1.hn (fun c hc => by cases hc; exact (C.1.2.1.2.2.2.2 p.1 ok.1).2.1)
            rw [g1, e24, bN_s, x_176 C3.1 ok, bI_s] at pre
            unfold b_15_137 at pre
            rw [L15_x C3.TH f2 (by omega) (by rw [e61]; decide) (by rw [e61]; decide)] at pre
            refine Or.inl ⟨s2, _, numM E.1 E.2.1 p.1, t, l, pre, ?_, tv.sty C.1.hn ok.2, f2, sz, A2.2.2.2.2.1.keep cp, CP.trn A2.2.2.2.2.2.1 (cp.mono (by omega)), uu, ?_, ?_, w2, w3, ?_⟩
            · rw [jz]
              dsimp only
              rw [List.append_nil]
            · show l.length + c0 + 2 ≤ z.1 + 2; omega
            · show z.1 + 2 ≤ N; omega
            · rw [w4, oa]
        · rw [if_neg e3] at h; cases h
      · have S := postS (d := d) (n := n) ih C hK hA hb h hi (by omega) A hzN pt (fun a b => fin ⟨a, b⟩)
        rcases S with ⟨z', s', t', l', r1, r2, r3, r4, r5⟩ | ⟨s', vv, r1, rv, z', r2, r3, r4, r5, r6⟩
        · rw [r1]
          exact postL ih C h61 h2 hK hA hb k n (i + 1) z' s' t' false l' r2 (by omega) (by omega) r3 r4 r5
        · refine Or.inr ⟨s', vv, r1, rv, ?_, r5, r6⟩
          obtain ⟨b, r, e⟩ := pPost_last k z' y r2 h2 h61 r3
          rw [e, ← List.append_assoc, (oLeft_c 2 (z'.2.2.2.1 ++ b) r).1]
          exact jrun_no (jrun_no r4)
    · unfold pPost at h
      rw [if_neg (fun x => pt (Or.inl x)), if_neg (fun x => pt (Or.inr x))] at h
      cases h
      exact absurd ⟨h2, h61⟩ hs
end MJA36
