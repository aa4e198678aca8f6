/-! ===== the Coder: left of = (11), what fits (32) ===== -/
def hL (E : EV) (N q D me : Nat) (rd : Nat → Nat → PX) : Prop := ∀ (c kq cs : Nat) (s : mjSt3) (j : JS) (z : PZ), c ≤ N → CE E N q s j cs → fne s c → rd c kq = .inr z → (E.1 z.1).1 = 61 → z.2.1 = 2 → KT E.2.2.2.1 kq z.2.2.1 → AG s z.2.2.2.2 → cs + (z.1 - c) ≤ 3090 → gLf E N q s c cs j z.2.2.2.1 (mjF D me [.ref 75] (mjW0 s)) z.1
theorem pAtom_n2 {T : TT} {rv : Nat → Nat → PX} {o c kq : Nat} {z : PZ} (h : pAtom T rv o c kq = .inr z) : ¬ z.2.1 = 2 := by
  unfold pAtom at h
  by_cases e3 : (T c).1 = 3
  · rw [if_pos e3] at h; cases h; exact fun x => by cases x
  rw [if_neg e3] at h
  by_cases e4 : (T c).1 = 4
  · rw [if_pos e4] at h; cases h; exact fun x => by cases x
  rw [if_neg e4] at h
  by_cases e11 : (T c).1 = 11
  · rw [if_pos e11] at h; cases h; exact fun x => by cases x
  rw [if_neg e11] at h
  by_cases e12 : (T c).1 = 12
  · rw [if_pos e12] at h; cases h; exact fun x => by cases x
  rw [if_neg e12] at h
  by_cases e14 : (T c).1 = 14
  · rw [if_pos e14] at h
    cases hp : pKind T (c + 1) with
    | inl x => rw [hp] at h; cases h
    | inr c' => rw [hp] at h; cases h; exact fun x => by cases x
  rw [if_neg e14] at h
  by_cases e40 : (T c).1 = 40
  · rw [if_pos e40] at h
    by_cases o12 : o = 12
    · rw [if_pos o12] at h; cases h
    rw [if_neg o12] at h
    cases hp : rv (c + 1) kq with
    | inl x => rw [hp] at h; cases h
    | inr y =>
      rw [hp] at h
      dsimp only at h
      by_cases g : (T y.1).1 = 41
      · rw [if_pos g] at h; cases h; exact fun x => by cases x
      · rw [if_neg g] at h; cases h
  · rw [if_neg e40] at h; cases h
theorem pLoop_s0 {T : TT} {sg : Int32 → Bool} {rd : Nat → Nat → PX} {kq : Nat} : ∀ (k : Nat) (z y : PZ), pLoop T sg rd kq k z = .inr y → y = z ∨ y.2.1 = 0
  | 0, z, y, h => by cases h; exact Or.inl rfl
  | k + 1, z, y, h => by
    unfold pLoop at h
    by_cases g : sg (T z.1).1 = true
    · rw [if_pos g] at h
      cases hd : rd (z.1 + 1) (kq + z.2.2.1.length) with
      | inl e => rw [hd] at h; cases h
      | inr x =>
        rw [hd] at h
        rcases pLoop_s0 k _ y h with e | e
        · rw [e]; exact Or.inr rfl
        · exact Or.inr e
    · rw [if_neg g] at h
      cases h
      exact Or.inl rfl
section MJA37
variable {E : EV} {d N q c t n e k u v i m o w cs c0 kq nt D me : Nat} {s s' s0 : mjSt3} {j j0 : JS} {y z : PZ} {p : Nat × Nat} {os : List Row} {rs : List Nat} {l : List Ins} {al isM : Bool}
theorem x_15L (ih : ¬ o = 12 → hE E N q (d + 5) 11 (prE E.1 (N + 1) w 0 (o + 1)) P3) (ih2 : ¬ o = 12 → hE E N q (d + 6) 11 (prE E.1 (N + 1) w 0 (o + 1)) P3) : hL E N q (d + 8) 15 (prE E.1 (N + 1) (w + 2) 4 o) := by
  intro c kq cs s j z hc C f hz h61 h2 hK hA hn
  have hT := C.TH
  have hra : ∀ c kq x, prE E.1 (N + 1) (w + 1) 6 o c kq = .inr x → c < x.1 := fun c kq x hx => (prE_len (T := E.1) (M := N + 1) (w + 1) 6 o c kq x (by omega) hx).1
  have pre : mjF (d + 8) 15 [.ref 75] (mjW0 s) = _ := e_15 (d := d + 7)
  unfold f_15 b_15_0 at pre
  rw [xg_75_0, xV_58, j_is hT f.1 hc, bI_s, xV_75] at pre
  rw [prE_4] at hz
  cases ha : prE E.1 (N + 1) (w + 1) 5 o c kq with
  | inl x => rw [ha] at hz; cases hz
  | inr x =>
    rw [ha] at hz
    dsimp only at hz
    obtain ⟨h1, pa, pb, pc, p1, p2, p3⟩ := pPost_pre hra _ _ z hz
    have hx := (prE_len (T := E.1) (M := N + 1) (w + 1) 5 o c kq x (by omega) ha).1
    rw [prE_5] at ha
    have sh := pAtom_n2 ha
    have a61 : ¬ (E.1 x.1).1 = 61 := by
      intro g
      have := pPost_end hz g
      rw [this] at h2
      exact sh h2
    have G := x_16 (d := d + 1) ih2 c kq cs s j x hc C f ha a61 ((KT.app (p1 ▸ hK)).1) ((AG.app (p3 ▸ hA)).1) (by omega)
    rcases G with ⟨s1, t, al, l, g1, g2, g3, g4⟩ | ⟨s1, vv, g1, g2, g3⟩
    · have g4 : al = decide ((E.1 c).1 = 12) := g4
      have eb : (if (E.1 c).1 = 12 then (1 : Int32) else 0) = b2 al := by
        rw [g4]
        by_cases g : (E.1 c).1 = 12
        · rw [if_pos g, decide_eq_true g]; rfl
        · rw [if_neg g, decide_eq_false g]; rfl
      rw [g1, bI_s, eb, show (0 : Int32) = nI 0 from rfl] at pre
      rw [pre]
      exact postL ih C h61 h2 hK hA hn (N + 1) mjN 0 x s1 t al l hz (by omega) (by have := mjN_v; have := hT.2.1; omega) g2 g3 (fun e => sh e.1)
    · rw [g1, bI_s, show mjN = 99999999 + 1 from rfl, n_15l g3.2.1] at pre
      refine Or.inr ⟨s1, vv, pre, g2, ?_, g3.2⟩
      obtain ⟨b, r, e⟩ := pPost_last _ x z hz h2 h61 (fun e => sh e.1)
      rw [e, ← List.append_assoc, (oLeft_c 2 (x.2.2.2.1 ++ b) r).1]
      exact jrun_no (jrun_no g3.1)
theorem x_14L (h15 : hL E N q (d + 2) 15 (prE E.1 (N + 1) w 4 o)) : hL E N q (d + 3) 14 (prE E.1 (N + 1) (w + 1) 3 o) := by
  intro c kq cs s j z hc C f hz h61 h2 hK hA hb
  have hT := C.TH
  have pre : mjF (d + 3) 14 [.ref 75] (mjW0 s) = _ := e_14 (d := d + 2)
  unfold f_14 b_14_0 at pre
  rw [xg_75_0, xV_58, j_is hT f.1 hc, bI_s, i01] at pre
  rw [prE_3] at hz
  by_cases e45 : (E.1 c).1 = 45
  · rw [if_pos e45] at hz
    by_cases o12 : o = 12
    · rw [if_pos o12] at hz; cases hz
    rw [if_neg o12] at hz
    cases ha : prE E.1 (N + 1) w 3 (o + 1) (c + 1) kq with
    | inl x => rw [ha] at hz; cases hz
    | inr x => rw [ha] at hz; cases hz; cases h2
  · rw [if_neg e45] at hz pre
    have G := h15 c kq cs s j z hc C f hz h61 h2 hK hA hb
    rw [xV_75] at pre
    rcases G with ⟨s2, t2, a, b, l2, g1, g2⟩ | ⟨s2, vv, g1, g2⟩
    · rw [g1, bI_s] at pre
      exact Or.inl ⟨s2, t2, a, b, l2, pre, g2⟩
    · rw [g1, bI_s] at pre
      exact Or.inr ⟨s2, vv, pre, g2⟩
theorem L13_x (hT : TH E.1 N s) (f : fne s c) (hc : c ≤ N) (h : (E.1 c).1 = 61) (a b : Int32) : L_13_7 (mjF (d + 2)) (n + 1) 75 a b (mjW0 s) = some (some (.int a), mjW0 s) := by
  rw [L13_S]
  unfold b_13_7 b_13_65
  rw [xg_75_0, xV_58, sz0 hT f.1 hc, bI_s, xg_75_0, xV_58, x_product (tk_f hT f hc), bI_s, (hT.2.2.2 c hc).1, h, i01, if_neg (show ¬ ((61 : Int32) = 42 ∨ (61 : Int32) = 47 ∨ (61 : Int32) = 37) by decide), ite_self]
theorem L12_x (hT : TH E.1 N s) (f : fne s c) (hc : c ≤ N) (h : (E.1 c).1 = 61) (a b : Int32) : L_12_7 (mjF (d + 2)) (n + 1) 75 a b (mjW0 s) = some (some (.int a), mjW0 s) := by
  rw [L12_S]
  unfold b_12_7 b_12_65
  rw [xg_75_0, xV_58, sz0 hT f.1 hc, bI_s, xg_75_0, xV_58, x_sum (tk_f hT f hc), bI_s, (hT.2.2.2 c hc).1, h, i01, if_neg (show ¬ ((61 : Int32) = 43 ∨ (61 : Int32) = 45) by decide), ite_self]
theorem x_13L (h14 : hL E N q (d + 3) 14 (prE E.1 (N + 1) w 3 o)) : hL E N q (d + 4) 13 (prE E.1 (N + 1) (w + 1) 2 o) := by
  intro c kq cs s j z hc C f hz h61 h2 hK hA hb
  have pre : mjF (d + 4) 13 [.ref 75] (mjW0 s) = _ := e_13 (d := d + 3)
  unfold f_13 b_13_0 at pre
  rw [xV_75] at pre
  rw [prE_2] at hz
  cases ha : prE E.1 (N + 1) w 3 o c kq with
  | inl x => rw [ha] at hz; cases hz
  | inr x =>
    rw [ha] at hz
    rcases pLoop_s0 _ _ _ hz with e | e
    · subst e
      have G := h14 c kq cs s j z hc C f ha h61 h2 hK hA hb
      rcases G with ⟨s2, t2, a, b, l2, g1, g2⟩ | ⟨s2, vv, g1, gv, gj, gb, go⟩
      · rw [g1, bI_s, show mjN = 99999999 + 1 from rfl, L13_x (d := d + 1) (C.goU g2.2.2.2.2.2.2.1 g2.2.2.2.1).TH g2.2.2.1 g2.2.2.2.2.2.2.2.2.1 h61] at pre
        exact Or.inl ⟨s2, t2, a, b, l2, pre, g2⟩
      · rw [g1, bI_s, show mjN = 99999999 + 1 from rfl, n_13l (d := d + 1) gb] at pre
        exact Or.inr ⟨s2, vv, pre, gv, gj, gb, go⟩
    · rw [h2] at e; cases e
theorem x_12L (h13 : hL E N q (d + 3) 13 (prE E.1 (N + 1) w 2 o)) : hL E N q (d + 4) 12 (prE E.1 (N + 1) (w + 1) 1 o) := by
  intro c kq cs s j z hc C f hz h61 h2 hK hA hb
  have pre : mjF (d + 4) 12 [.ref 75] (mjW0 s) = _ := e_12 (d := d + 3)
  unfold f_12 b_12_0 at pre
  rw [xV_75] at pre
  rw [prE_1] at hz
  cases ha : prE E.1 (N + 1) w 2 o c kq with
  | inl x => rw [ha] at hz; cases hz
  | inr x =>
    rw [ha] at hz
    rcases pLoop_s0 _ _ _ hz with e | e
    · subst e
      have G := h13 c kq cs s j z hc C f ha h61 h2 hK hA hb
      rcases G with ⟨s2, t2, a, b, l2, g1, g2⟩ | ⟨s2, vv, g1, gv, gj, gb, go⟩
      · rw [g1, bI_s, show mjN = 99999999 + 1 from rfl, L12_x (d := d + 1) (C.goU g2.2.2.2.2.2.2.1 g2.2.2.2.1).TH g2.2.2.1 g2.2.2.2.2.2.2.2.2.1 h61] at pre
        exact Or.inl ⟨s2, t2, a, b, l2, pre, g2⟩
      · rw [g1, bI_s, show mjN = 99999999 + 1 from rfl, n_12l (d := d + 1) gb] at pre
        exact Or.inr ⟨s2, vv, pre, gv, gj, gb, go⟩
    · rw [h2] at e; cases e
theorem x_11L (h12 : hL E N q (d + 3) 12 (prE E.1 (N + 1) w 1 o)) : hL E N q (d + 4) 11 (prE E.1 (N + 1) (w + 1) 0 o) := by
  intro c kq cs s j z hc C f hz h61 h2 hK hA hb
  have pre : mjF (d + 4) 11 [.ref 75] (mjW0 s) = _ := e_11 (d := d + 3)
  unfold f_11 b_11_0 at pre
  rw [xV_75] at pre
  rw [prE_0] at hz
  cases ha : prE E.1 (N + 1) w 1 o c kq with
  | inl x => rw [ha] at hz; cases hz
  | inr x =>
    rw [ha] at hz
    dsimp only at hz
    by_cases g : isCmp (E.1 x.1).1 = true
    · rw [if_pos g] at hz
      cases hd : prE E.1 (N + 1) w 1 o (x.1 + 1) (kq + x.2.2.1.length) with
      | inl y => rw [hd] at hz; cases hz
      | inr y => rw [hd] at hz; cases hz; cases h2
    · rw [if_neg g] at hz
      cases hz
      have G := h12 c kq cs s j z hc C f ha h61 h2 hK hA hb
      rcases G with ⟨s2, t2, a, b, l2, g1, g2⟩ | ⟨s2, vv, g1, gv, gj, gb, go⟩
      · have hT := (C.goU g2.2.2.2.2.2.2.1 g2.2.2.2.1).TH
        have gN := g2.2.2.2.2.2.2.2.2.1
        rw [g1, bI_s, xg_75_0, xV_58, x_compare (tk_f hT g2.2.2.1 gN), bI_s, (hT.2.2.2 z.1 gN).1, h61, i01, if_neg (by decide)] at pre
        exact Or.inl ⟨s2, t2, a, b, l2, pre, g2⟩
      · have hT := gb.1.1.1.1
        have k60 : s2.1 60 N = 0 := by rw [(hT.2.2.2 N (Nat.le_refl N)).1, hT.2.2.1]
        rw [g1, bI_s, xg_75_0, xV_58, x_compare (tk_b hT gb.2.1), bI_s, k60, i01, if_neg (by decide)] at pre
        exact Or.inr ⟨s2, vv, pre, gv, gj, gb, go⟩
/-- E, at any depth that suffices -/
theorem hV (ho : o ≤ 12) (hD : 96 ≤ D) : hE E N q D 11 (prV E.1 (N + 1) o) P3 := by
  have hd : dpE o ≤ 92 := by unfold dpE; omega
  have := (hS_all (E := E) (N := N) (q := q) 100 100 (Nat.le_refl _) o ho (D - 4 - dpE o)).1
  rw [show dpE o + (D - 4 - dpE o) + 4 = D by omega] at this
  exact this
theorem hLV (ho : o ≤ 12) (hD : 96 ≤ D) : hL E N q D 11 (prV E.1 (N + 1) o) := by
  have hd : dpE o ≤ 92 := by unfold dpE; omega
  obtain ⟨b, rfl⟩ : ∃ b, D = b + 12 := ⟨D - 12, by omega⟩
  refine x_11L (d := b + 8) (w := 99) (x_12L (d := b + 7) (w := 98) (x_13L (d := b + 6) (w := 97) (x_14L (d := b + 6) (w := 96) (x_15L (d := b) (w := 94) (fun o12 => ?_) (fun o12 => ?_)))))
  · have h1 : dpE o = dpE (o + 1) + 7 := by unfold dpE; omega
    have := (hS_all (E := E) (N := N) (q := q) 94 94 (Nat.le_refl _) (o + 1) (by omega) (b + 1 - dpE (o + 1))).1
    rw [show dpE (o + 1) + (b + 1 - dpE (o + 1)) + 4 = b + 5 by omega] at this
    exact this
  · have h1 : dpE o = dpE (o + 1) + 7 := by unfold dpE; omega
    have := (hS_all (E := E) (N := N) (q := q) 94 94 (Nat.le_refl _) (o + 1) (by omega) (b + 2 - dpE (o + 1))).1
    rw [show dpE (o + 1) + (b + 2 - dpE (o + 1)) + 4 = b + 6 by omega] at this
    exact this
/-- codeFitting: from the word (or the =) to behind the ; -/
theorem x_32 (ho : o ≤ 12) (hD : 96 ≤ D) (hc : c < N) (C : CE E N q s j cs) (f : fne s c) (hz : prV E.1 (N + 1) o (c + 1) kq = .inr z) (h59 : (E.1 z.1).1 = 59) (hK : KT E.2.2.2.1 kq z.2.2.1) (hA : AG s z.2.2.2.2) (hb : cs + (z.1 - (c + 1)) ≤ 3090) (hw : vT E.2.1 w) : (∃ s' t al l, mjF (D + 1) 32 [.ref 75, .int (tyI w)] (mjW0 s) = some (none, mjW0 s') ∧ atC E N q s (c + 2) cs j z.2.2.2.1 s' (z.1 + 1) t al l ∧ fitT E.1 E.2.1 t w = true ∧ z.1 + 1 ≤ N) ∨ (∃ s', mjF (D + 1) 32 [.ref 75, .int (tyI w)] (mjW0 s) = some (none, mjW0 s') ∧ (∀ t al l, jrun E z.2.2.2.1 j = some (jE j t al, l) → ¬ fitT E.1 E.2.1 t w = true) ∧ (jrun E z.2.2.2.1 j = none ∨ ∃ t al l, jrun E z.2.2.2.1 j = some (jE j t al, l)) ∧ BC E.1 N q E.2.1 E.2.2.1 s' ∧ oC q s s') := by
  have hT := C.TH
  have h0 := hT.2.2.1
  have hq' : q = 2 ∨ q = 30 := C.pq
  obtain ⟨D', rfl⟩ : ∃ D', D = D' + 3 := ⟨D - 3, by omega⟩
  have pre : mjF (D' + 3 + 1) 32 [.ref 75, .int (tyI w)] (mjW0 s) = _ := e_32 (d := D' + 3)
  have xg : o58 s (tkGo s (c + 1)) := o58.go _ _
  have C1 : CE E N q (tkGo s (c + 1)) j cs := C.go xg.oe (by rw [xg.r (by omega)]; exact C.2.2.2.2)
  unfold f_32 b_32_0 b_32_40 at pre
  rw [xg_75_0, xV_58, j_now hT f.1 (by omega), bI_s, xg_75_0, xV_58, j_skip hT f hc, bN_s, xg_75_3, C1.1.2.2.2.2.2.1, xV_75] at pre
  have G := hV (E := E) (q := q) ho hD (c + 1) kq cs (tkGo s (c + 1)) j z (by omega) C1 (f.go _) hz (by rw [h59]; decide) hK (hA.oE C.pq xg.oe) hb
  rcases G with ⟨s1, t, al, l, g1, A, gN, _⟩ | ⟨s1, vv, g1, gv, g2, g3, g4⟩
  · have C2 := C1.go A.2.2.2.2.2.2.1 A.2.2.2.1
    have zN := lt_z h0 gN h59 (by decide)
    rw [g1, bI_s, yV C.pq, x_123 C2.1 A.2.1 hw, bI_s, b2_i] at pre
    by_cases ft : fitT E.1 E.2.1 t w = true
    · rw [if_pos ft, xg_75_0, xV_58, j_skip C2.TH A.2.2.1 zN, bN_s] at pre
      have xg2 : o58 s1 (tkGo s1 (z.1 + 1)) := o58.go _ _
      have A2 := A.t58 C.pq xg2 (A.2.2.1.go _) (show z.1 ≤ z.1 + 1 by omega)
      obtain ⟨a1, a2, a3, a4, a5, a6, a7, a8⟩ := A2
      have a9 := A.2.2.2.2.2.2.2
      exact Or.inl ⟨_, t, al, l, pre, ⟨a1, a2, a3, a4, a5, CP.trn (CP.o58 C.pq xg) a6, xg.oe.tr a7, by omega⟩, ft, by omega⟩
    · rw [if_neg ft, xg_75_0, xV_58] at pre
      obtain ⟨y, y1, y2, y3⟩ := j_at (d := D' + 2) (k := 7) (t := c) C2.TH A.2.2.1 gN (by omega) (by decide)
      have a9 := A.2.2.2.2.2.2.2
      have B := C2.bad (by omega) y3 y2
      rw [y1, bN_s, xg_75_0, xV_58, B.skp, bN_s] at pre
      refine Or.inr ⟨y, pre, fun t' al' l' h => ?_, Or.inr ⟨t, al, l, A.1⟩, B, xg.C.tr (A.2.2.2.2.2.2.1.C.tr y3.C)⟩
      rw [A.1] at h
      cases h
      exact ft
  · obtain ⟨b, hb'⟩ := x_123B (d := D') (w := w) g3 gv hw
    rw [g1, bI_s, yV C.pq, hb', bI_s, xg_75_0, xV_58, j_atB g3.1.1.1.1 g3.2.1, bN_s, xg_75_0, xV_58, g3.skp, bN_s, ite_self] at pre
    refine Or.inr ⟨s1, pre, fun t' al' l' h => ?_, Or.inl g2, g3, xg.C.tr g4⟩
    rw [g2] at h
    cases h
end MJA37
