/-! ===== the Coder: ATOMS ===== -/
/-- behind a method of the Coder that gives a TYPE: as the orders are judged -/
def gCo (E : EV) (N q : Nat) (s0 : mjSt3) (c0 cs : Nat) (j0 : JS) (os : List Row) (u : mjU) (c' : Nat) (P : Bool → List Ins → Prop) : Prop := (∃ s t al l, u = some (some (.int (tyI t)), mjW0 s) ∧ atC E N q s0 c0 cs j0 os s c' t al l ∧ c' ≤ N ∧ P al l) ∨ (∃ s v, u = some (some (.int (tyI v)), mjW0 s) ∧ v < 524290 ∧ bdC E N q s0 j0 os s)
def hE (E : EV) (N q D me : Nat) (rd : Nat → Nat → PX) (P : Nat → PZ → Bool → List Ins → Prop) : Prop := ∀ (c kq cs : Nat) (s : mjSt3) (j : JS) (z : PZ), c ≤ N → CE E N q s j cs → fne s c → rd c kq = .inr z → ¬ (E.1 z.1).1 = 61 → KT E.2.2.2.1 kq z.2.2.1 → AG s z.2.2.2.2 → cs + (z.1 - c) ≤ 3090 → gCo E N q s c cs j z.2.2.2.1 (mjF D me [.ref 75] (mjW0 s)) z.1 (P c z)
def P3 (c : Nat) (z : PZ) (_ : Bool) (l : List Ins) : Prop := z.2.1 = 3 → l.length + c + 3 ≤ z.1
def P5 (E : EV) (c : Nat) (_ : PZ) (al : Bool) (_ : List Ins) : Prop := al = decide ((E.1 c).1 = 12)
section MJA28
variable {E : EV} {d N q c t n e k u v i m o w cs c0 kq : Nat} {s s' s0 : mjSt3} {j j0 : JS} {z : PZ}
theorem CE.TH (C : CE E N q s j cs) : TH E.1 N s := C.1.1.1.1
theorem CE.KY (C : CE E N q s j cs) : KY E.1 N s := C.1.1.1.2.1
/-- one order of one instruction, at the beginning -/
theorem at1 {r : Row} {al : Bool} {c' : Nat} (C : CE E N q s j cs) {s1 : mjSt3} (x : o58 s s1) (f : fne s1 c') (hc : c < c') (hn : cs < 3100) (a b p : Int32) (hr : jrow E r j = some (jE j t al, [(a, b, p)])) (hv : vTn E.2.1 t) : ∃ s', mjF (d + 1) 1 [.ref (q + 24), .int a, .int b, .int p] (mjW0 s1) = some (some (.int (nI cs)), mjW0 s') ∧ atC E N q s c cs j [r] s' c' t al [(a, b, p)] ∧ s'.1 58 = s1.1 58 := by
  have hq : q = 2 ∨ q = 30 := C.pq
  have C1 : CE E N q s1 j cs := C.go x.oe (by rw [x.r (by omega)]; exact C.2.2.2.2)
  obtain ⟨s', b1, b2', b3, b4, b5, b6⟩ := put1 (d := d) C1 hn a b p
  refine ⟨s', b1, ⟨by rw [jrun_1, hr], hv, ⟨by rw [b3]; exact f.1, by rw [b3]; exact f.2⟩, b4, b5, CP.trn (CP.o58 C.pq x) b6, x.oe.tr b2', ?_⟩, b3⟩
  show 1 + c ≤ c'
  omega
theorem kd_E (C : CE E N q s j cs) {a : Int32} (ha : E.2.2.2.1 a = t) {k : Nat} (h : kdE E a = some k) : vK E.2.1 k := by
  unfold kdE at h
  rw [ha] at h
  cases hk : kdT E.1 E.2.1 E.2.2.2.2.1 false t with
  | none => rw [hk] at h; cases h
  | some x =>
    rw [hk] at h
    dsimp only at h
    by_cases g : (E.2.2.1 || nsT E.1 E.2.1 E.2.2.2.2.1 x) = true
    · rw [if_pos g] at h
      cases h
      obtain ⟨_, _, _, _, _, _, v⟩ := kd_v C.1.hn C.2.2.1 hk
      exact v
    · rw [if_neg g] at h; cases h
/-- the KIND at the cursor, as an order's -/
theorem x_kd (C : CE E N q s j cs) (hcs : cs ≤ 3100) (f : fne s t) (hk : KDk E.1 N t) {a : Int32} (ha : E.2.2.2.1 a = t) : (∀ k, kdE E a = some k → mjF (d + 3) 60 [.ref 71, .int (oI E.2.2.2.2.1), .int 0] (mjW0 s) = some (some (.int (nI k)), mjW0 (tkGo s (t + 2 + 2 * cntO E.1 6 (t + 2))))) ∧ (kdE E a = none → ∃ k s', k < 524288 ∧ mjF (d + 3) 60 [.ref 71, .int (oI E.2.2.2.2.1), .int 0] (mjW0 s) = some (some (.int (nI k)), mjW0 s') ∧ BC E.1 N q E.2.1 E.2.2.1 s' ∧ o58 s s') := by
  have X := C.1.1.1
  have Z := x_60 (d := d) (iN := inL E.2.1) (ip := ipT E.1 E.2.1) (kn := knF E.1 E.2.1) (h := E.2.2.2.2.1) X C.2.2.1 f hk false E.2.2.1 C.1.2.2.2.2.1 (Or.inr (Or.inr ⟨C.1.1.2.2.2.2.2.2.1, C.1.1.2.2.1⟩))
  rw [show b2 false = (0 : Int32) from rfl] at Z
  unfold kdE
  rw [ha]
  cases hkd : kdT E.1 E.2.1 E.2.2.2.2.1 false t with
  | none =>
    rw [hkd] at Z
    obtain ⟨s', z1, z2, z3⟩ := Z
    exact ⟨fun k h => (by cases h), fun _ => ⟨0, s', by omega, z1, C.bad hcs z3 z2, z3⟩⟩
  | some k =>
    rw [hkd] at Z
    dsimp only at Z ⊢
    rw [Bool.false_or] at Z
    by_cases g : (E.2.2.1 || nsT E.1 E.2.1 E.2.2.2.2.1 k) = true
    · rw [if_pos (show (E.2.2.1 || nst (nmL E.2.1) (inL E.2.1) (ipT E.1 E.2.1) (knF E.1 E.2.1) E.2.2.2.2.1 k) = true from g)] at Z
      rw [if_pos g]
      exact ⟨fun k' h => (by cases h; exact Z), fun h => (by cases h)⟩
    · rw [if_neg (show ¬ (E.2.2.1 || nst (nmL E.2.1) (inL E.2.1) (ipT E.1 E.2.1) (knF E.1 E.2.1) E.2.2.2.2.1 k) = true from g)] at Z
      obtain ⟨s', z1, z2, z3⟩ := Z
      rw [if_neg g]
      obtain ⟨_, _, _, _, _, _, vv⟩ := kd_v C.1.hn C.2.2.1 hkd
      exact ⟨fun k h => (by cases h), fun _ => ⟨k, s', vv.lt C.1.hn, z1, C.bad hcs z3 z2, z3⟩⟩
/-- codeAtom -/
theorem x_16 (ih : ¬ o = 12 → hE E N q (d + 5) 11 (prE E.1 (N + 1) w 0 (o + 1)) P3) : hE E N q (d + 6) 16 (fun c kq => pAtom E.1 (prE E.1 (N + 1) w 0 (o + 1)) o c kq) (P5 E) := by
  intro c kq cs s j z hc C f hz h61 hK hA hn
  have hT := C.TH
  have h0 := hT.2.2.1
  have hN := hT.2.1
  have hq' : q = 2 ∨ q = 30 := C.pq
  have hn0 := C.1.hn
  have pre : mjF (d + 6) 16 [.ref 75] (mjW0 s) = _ := e_16 (d := d + 5)
  have kn : mjF (d + 5) 173 [.ref 58] (mjW0 s) = some (some (.int (E.1 c).1), mjW0 s) := by
    rw [x_kindNow (tk_f hT f hc), (hT.2.2.2 c hc).1]
  unfold f_16 b_16_0 at pre
  rw [xg_75_0, xV_58, kn, bI_s] at pre
  unfold pAtom at hz
  dsimp only at hz
  by_cases e3 : (E.1 c).1 = 3
  · rw [if_pos e3] at hz pre
    cases hz
    have cN := lt_z h0 hc e3 (by decide)
    obtain ⟨G, B⟩ := x_17 (d := d + 3) hT C.KY C.2.2.2.1 f cN e3
    have ev := vsI_K j.2.2.1 (kyT E.1 c)
    have ek : jrow E (6, (E.1 c).2.1, 0, 0, (E.1 c).2.2.1) j = match vsK j.2.2.1 (kyT E.1 c) with
      | none => none
      | some e => some (jE j e.2.1 false, [(1, nI e.2.2.1, -1)]) := rfl
    cases hv : vsI j.2.2.1 (kyT E.1 c) with
    | none =>
      rw [hv] at ev
      obtain ⟨y, y1, y2, y3⟩ := B hv
      have bc := C.bad (by omega) y3 y2
      obtain ⟨y', n', w1, w2, w3, w4, w5⟩ := n_emit (d := d + 4) bc 1 0 (-1)
      rw [xV_75, y1, bI_s, xg_75_5, bc.1.2.2.2.2.2.2.2, xV_75, x_20n.2, bI_s, ycV C.pq, w1, bI_s, xV_75, x_20n.1, bI_s] at pre
      exact Or.inr ⟨y', 0, pre, by decide, by rw [jrun_1, ek, ev], w3, y3.C.tr w4⟩
    | some i =>
      rw [hv] at ev
      have il := fnd_lt hv
      obtain ⟨e, he⟩ : ∃ e, j.2.2.1[i]? = some e := ⟨_, List.getElem?_eq_getElem il⟩
      dsimp only at ev
      rw [he] at ev
      rw [ev] at ek
      have ty := (C.2.2.2.1.2.2.2.2 i e he).2.2.1
      have x1 : o58 s (tkGo s (c + 1)) := o58.go _ _
      have V1 := C.2.2.2.1.oE C.pq x1.oe
      obtain ⟨y, y1, y2, y3⟩ := at1 (d := d + 4) (c := c) C x1 (f.go (c + 1)) (by omega) (by omega) 1 (nI e.2.2.1) (-1) ek (Or.inr ty)
      have V2 := V1.oE C.pq (show oE q (tkGo s (c + 1)) y from ⟨fun h k hk => by
        have := y2.2.2.2.2.2.2.1.1 h k hk
        rw [this, x1.1 h k (fun z => hk (Or.inl z))], fun h k _ => by rw [y2.2.2.2.2.2.2.1.l, x1.l], by rw [y2.2.2.2.2.2.2.1.l, x1.l]⟩)
      rw [xV_75, G i hv, bI_s, xg_75_5, x1.l, C.1.2.2.2.2.2.2.2, xV_75, (x_20 (d := d + 4) V1 he).2, bI_s, ycV C.pq, y1, bI_s, xV_75, (x_20 (d := d + 4) V2 he).1, bI_s] at pre
      refine Or.inl ⟨y, e.2.1, false, _, pre, y2, by omega, ?_⟩
      show false = decide ((E.1 c).1 = 12)
      rw [e3]; decide
  rw [if_neg e3] at hz pre
  by_cases e4 : (E.1 c).1 = 4
  · rw [if_pos e4] at hz
    cases hz
    have cN := lt_z h0 hc e4 (by decide)
    rw [if_neg (show ¬ (E.1 c).1 = 11 by rw [e4]; decide), if_neg (show ¬ (E.1 c).1 = 12 by rw [e4]; decide), if_neg (show ¬ (E.1 c).1 = 14 by rw [e4]; decide), if_neg (show ¬ (E.1 c).1 = 40 by rw [e4]; decide), xg_75_5, C.1.2.2.2.2.2.2.2, xg_75_0, xg_75_0, xV_58, j_now hT f.1 hc, bI_s, xV_58, j_key hT f.1 hc hc, bL_s, ycV C.pq, C.KY.2.2.2 c hc e4] at pre
    obtain ⟨y, y1, y2', y3, y4, y5, y6⟩ := put1 (d := d + 4) C (by omega) 0 (E.1 c).2.2.2 (-1)
    have fy : fne y c := ⟨by rw [y3]; exact f.1, by rw [y3]; exact f.2⟩
    have hTy := (C.go y2' y4).TH
    rw [y1, bI_s, xg_75_0, xV_58, j_skip hTy fy cN, bN_s] at pre
    have xg : o58 y (tkGo y (c + 1)) := o58.go _ _
    refine Or.inl ⟨tkGo y (c + 1), 0, false, [(0, (E.1 c).2.2.2, -1)], pre, ⟨by rw [jrun_1]; rfl, Or.inr (Or.inl rfl), fy.go _, ?_, ?_, ?_, y2'.tr xg.oe, ?_⟩, by omega, ?_⟩
    · rw [xg.r (by omega)]; exact y4
    · exact y5.keep (CP.o58 C.pq xg)
    · exact CP.trn y6 (CP.o58 C.pq xg)
    · show 1 + c ≤ c + 1; omega
    · show false = decide ((E.1 c).1 = 12)
      rw [e4]; decide
  rw [if_neg e4] at hz
  by_cases e11 : (E.1 c).1 = 11
  · rw [if_pos e11] at hz pre
    cases hz
    have cN := lt_z h0 hc e11 (by decide)
    rw [xg_75_0, xV_58, j_skip hT f cN, bN_s, xg_75_5, show (tkGo s (c + 1)).2 = s.2 from rfl, C.1.2.2.2.2.2.2.2, ycV C.pq] at pre
    obtain ⟨y, y1, y2, y3⟩ := at1 (d := d + 4) (c := c) C (o58.go s (c + 1)) (f.go (c + 1)) (by omega) (by omega) 0 0 (-1) (r := (4, (E.1 c).2.1, 0, 0, 0)) (t := 1) (al := false) rfl (Or.inl rfl)
    rw [y1, bI_s] at pre
    refine Or.inl ⟨y, 1, false, _, pre, y2, by omega, ?_⟩
    show false = decide ((E.1 c).1 = 12)
    rw [e11]; decide
  rw [if_neg e11] at hz pre
  by_cases e12 : (E.1 c).1 = 12
  · rw [if_pos e12] at hz pre
    cases hz
    have cN := lt_z h0 hc e12 (by decide)
    have e21 : mjF (d + 5) 21 [.ref 75] (mjW0 s) = _ := e_21 (d := d + 4)
    unfold f_21 b_21_0 at e21
    rw [xg_75_6, C.2.1] at e21
    have ek : jrow E (5, (E.1 c).2.1, 0, 0, 0) j = match E.2.2.2.2.1 with
      | none => none
      | some c => some (jE j (own (nmL E.2.1) c + 2) true, [(3, 0, -1)]) := rfl
    cases hh : E.2.2.2.2.1 with
    | none =>
      rw [hh, oI_n, if_pos rfl, xg_75_0, xV_58] at e21
      obtain ⟨y, y1, y2, y3⟩ := j_ref (d := d + 3) (k := 5) hT f hc (by decide)
      rw [y1, bN_s] at e21
      rw [xV_75, e21, bI_s] at pre
      exact Or.inr ⟨y, 0, pre, by decide, by rw [jrun_1, ek, hh], C.bad (by omega) y3 y2, y3.C⟩
    | some cl =>
      have hcl := C.2.2.1 cl hh
      have h16 := hn0.1
      rw [hh] at ek
      rw [hh, oI_s, if_neg (nI_m1 (by omega)), xg_75_0, xV_58, j_skip hT f cN, bN_s, xg_75_5, show (tkGo s (c + 1)).2 = s.2 from rfl, C.1.2.2.2.2.2.2.2, ycV C.pq] at e21
      obtain ⟨y, y1, y2, y3⟩ := at1 (d := d + 3) (c := c) C (o58.go s (c + 1)) (f.go (c + 1)) (by omega) (by omega) 3 0 (-1) ek (Or.inr (Or.inr ⟨_, rfl, vK.own hn0 hcl⟩))
      have Cy := C.go y2.2.2.2.2.2.2.1 y2.2.2.2.1
      rw [y1, bI_s, xg_75_3, Cy.1.2.2.2.2.2.1, xg_75_6, Cy.2.1, hh, oI_s, yV C.pq, x_ownK C.pq Cy.1.1.1.2.2.2.2.2.2.1 (by omega), bI_s] at e21
      rw [xV_75, e21, bI_s] at pre
      refine Or.inl ⟨y, own (nmL E.2.1) cl + 2, true, _, pre, y2, by omega, ?_⟩
      show true = decide ((E.1 c).1 = 12)
      rw [e12]; decide
  rw [if_neg e12] at hz pre
  by_cases e14 : (E.1 c).1 = 14
  · rw [if_pos e14] at hz pre
    have cN := lt_z h0 hc e14 (by decide)
    cases hp : pKind E.1 (c + 1) with
    | inl x => rw [hp] at hz; cases hz
    | inr c' =>
      rw [hp] at hz
      cases hz
      obtain ⟨KD, ec⟩ := pKind_ok h0 (show c + 1 ≤ N by omega) hp
      have kl := KD.2.2.2.1
      have ha : E.2.2.2.1 (nI kq) = c + 1 := hK 0 (c + 1) rfl
      have x1 : o58 s (tkGo s (c + 1)) := o58.go _ _
      have C1 : CE E N q (tkGo s (c + 1)) j cs := C.go x1.oe (by rw [x1.r (by omega)]; exact C.2.2.2.2)
      obtain ⟨G, B⟩ := x_kd (d := d + 2) C1 (by omega) (f.go (c + 1)) KD ha
      rw [xg_75_0, xV_58, j_now hT f.1 hc, bI_s, xg_75_0, xV_58, j_skip hT f cN, bN_s, xg_75_2, xg_75_6, C1.2.1, xV_71] at pre
      have ek : jrow E (7, (E.1 c).2.1, nI kq, 0, 0) j = match kdE E (nI kq) with
        | none => none
        | some k => some (jE j (k + 2) false, [(14, nI k, (E.1 c).2.1)]) := rfl
      cases hk : kdE E (nI kq) with
      | none =>
        obtain ⟨k, y, kl2, y1, y2, y3⟩ := B hk
        obtain ⟨y', n', w1, w2, w3, w4, w5⟩ := n_emit (d := d + 4) y2 14 (nI k) (E.1 c).2.1
        rw [y1, bI_s, xg_75_5, y2.1.2.2.2.2.2.2.2, xg_75_0, xV_58, j_place y2.1.1.1.1 y2.2.1.1 (Nat.le_refl N) hc, bI_s, ycV C.pq, w1, bI_s] at pre
        exact Or.inr ⟨y', k + 2, pre, by omega, by rw [jrun_1, ek, hk], w3, x1.C.tr (y3.C.tr w4)⟩
      | some k =>
        have vk := kd_E C ha hk
        rw [hk] at ek
        have x2 : o58 s (tkGo (tkGo s (c + 1)) (c + 1 + 2 + 2 * cntO E.1 6 (c + 1 + 2))) := x1.tr (o58.go _ _)
        have f2 := (f.go (c + 1)).go (c + 1 + 2 + 2 * cntO E.1 6 (c + 1 + 2))
        obtain ⟨y, y1, y2, y3⟩ := at1 (d := d + 4) (c := c) C x2 f2 (by omega) (by omega) 14 (nI k) (E.1 c).2.1 ek (Or.inr (Or.inr ⟨k, rfl, vk⟩))
        rw [G k hk, bI_s, xg_75_5, x2.l, C.1.2.2.2.2.2.2.2, xg_75_0, xV_58, j_place (hT.o58 x2) f2.1 (by omega) hc, bI_s, ycV C.pq, y1, bI_s] at pre
        rw [ec]
        refine Or.inl ⟨y, k + 2, false, _, pre, y2, by omega, ?_⟩
        show false = decide ((E.1 c).1 = 12)
        rw [e14]; decide
  rw [if_neg e14] at hz pre
  by_cases e40 : (E.1 c).1 = 40
  · rw [if_pos e40] at hz pre
    have cN := lt_z h0 hc e40 (by decide)
    by_cases o12 : o = 12
    · rw [if_pos o12] at hz; cases hz
    rw [if_neg o12] at hz
    cases hp : prE E.1 (N + 1) w 0 (o + 1) (c + 1) kq with
    | inl x => rw [hp] at hz; cases hz
    | inr y =>
      rw [hp] at hz
      dsimp only at hz
      by_cases e41 : (E.1 y.1).1 = 41
      · rw [if_pos e41] at hz
        cases hz
        have x1 : o58 s (tkGo s (c + 1)) := o58.go _ _
        have C1 : CE E N q (tkGo s (c + 1)) j cs := C.go x1.oe (by rw [x1.r (by omega)]; exact C.2.2.2.2)
        have ln := (prE_len (T := E.1) (M := N + 1) w 0 (o + 1) (c + 1) kq y (by omega) hp).1
        have G := ih o12 (c + 1) kq cs (tkGo s (c + 1)) j y (by omega) C1 (f.go (c + 1)) hp (by rw [e41]; decide) hK (hA.oE C.pq x1.oe) (by
          have : y.1 + 1 - c ≤ 3090 - cs := by
            have := hn
            dsimp only at this
            omega
          omega)
        rw [xg_75_0, xV_58, j_skip hT f cN, bN_s, xV_75] at pre
        have ej : ∀ t al, jrow E (30, -1, 0, 0, 0) (jE j t al) = some (jE j t false, []) := fun _ _ => rfl
        rcases G with ⟨y', t, al, l, g1, ⟨g2, g3, g4, g5, g6, g7, g8, g9⟩, gN, g10⟩ | ⟨y', vv, g1, gv, g2, g3, g4⟩
        · have yN := lt_z h0 gN e41 (by decide)
          have hTy := (C1.go g8 g5).TH
          rw [g1, bI_s, xg_75_0, xV_58, j_skip hTy g4 yN, bN_s] at pre
          have xg : o58 y' (tkGo y' (y.1 + 1)) := o58.go _ _
          refine Or.inl ⟨tkGo y' (y.1 + 1), t, false, l, pre, ⟨?_, g3, g4.go _, ?_, g6.keep (CP.o58 C.pq xg), CP.trn (CP.o58 C.pq x1) (CP.trn g7 (CP.o58 C.pq xg)), x1.oe.tr (g8.tr xg.oe), ?_⟩, ?_, ?_⟩
          · rw [jrun_app, g2]
            dsimp only
            rw [jrun_1, ej]
            dsimp only
            rw [List.append_nil]
          · rw [xg.r (by omega)]; exact g5
          · show l.length + c ≤ y.1 + 1; omega
          · show y.1 + 1 ≤ N; omega
          · show false = decide ((E.1 c).1 = 12)
            rw [e40]; decide
        · rw [g1, bI_s, xg_75_0, xV_58, j_skipB g3.1.1.1.1 g3.2.1, bN_s] at pre
          refine Or.inr ⟨y', vv, pre, gv, ?_, g3, x1.C.tr g4⟩
          rw [jrun_app, g2]
      · rw [if_neg e41] at hz; cases hz
  · rw [if_neg e40] at hz; cases hz
end MJA28
