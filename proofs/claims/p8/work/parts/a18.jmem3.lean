/-! ===== (d): all MEMBERS ===== -/
def OKd (T : TT) (L : List CD) (tr : Bool) (c : Nat) : Prop := (∀ k, abT T L c = some k → (tr || nsT T L (some c) k) = true) ∧ ∀ i, i < mcL L c → OKm T L tr (fmL L c + i)
/-- the rows of TYPES of MEMBER m -/
def TYr (T : TT) (L : List CD) (q : Nat) (s : mjSt3) (m : Nat) : Prop := s.1 (q + 17) m = tyI (tyT T L (some (hmM L m)) (mdM L m).1) ∧ ∀ j, j < (psM L m).length → s.1 (q + 21) (6 * m + j) = tyI (pyT T L m j)
section MJA18
variable {T : TT} {d N q c t n e k u v i m : Nat} {s s' : mjSt3} {L : List CD} {h : Option Nat}
theorem hm_at (hc : c < L.length) (hi : i < mcL L c) : hmM L (fmL L c + i) = c := by
  obtain ⟨D, hD⟩ : ∃ D, L[c]? = some D := ⟨_, List.getElem?_eq_getElem hc⟩
  unfold mcL at hi
  rw [hD] at hi
  obtain ⟨md, hk⟩ : ∃ md, D.2[i]? = some md := ⟨_, List.getElem?_eq_getElem hi⟩
  exact (FL_at hD hk).1
theorem KNW.off {kn : Nat → Nat → Nat → Bool} (K : KNW q s kn) (e : s'.1 (q + 11) = s.1 (q + 11)) : KNW q s' kn := by
  unfold KNW; rw [e]; exact K
theorem INP.off {iN : Nat → Nat} {ip : Nat → Nat → Nat × Nat} (K : INP q s iN ip) (e : s'.1 (q + 3) = s.1 (q + 3)) (e' : s'.1 (q + 4) = s.1 (q + 4)) : INP q s' iN ip := by
  unfold INP; rw [e, e']; exact K
theorem oMm.r (o : oMm q m s s') {h : Nat} (h1 : ¬ h = 58) (h2 : ¬ h = q + 17) (h3 : ¬ h = q + 21) : s'.1 h = s.1 h := funext fun j => o.1 h j (by unfold c58; omega)
/-- judgeMember -/
theorem x_67 (P : PFm T N L) (tr : Bool) (hm : m < nMem L) (X : JX T N q L s) (D : RDM T N q L s) (ht : s.1 71 4 = b2 tr) (K : KNW q s (knF T L)) (I : INP q s (inL L) (ipT T L)) {cu : Nat} (f : fne s cu) (hcu : cu ≤ N) : ∃ s', mjF (d + 5) 67 [.ref 71, .int (nI (hmM L m)), .int (nI m)] (mjW0 s) = some (none, mjW0 s') ∧ GB N s' ∧ (s'.1 58 7 = 0 ↔ OKm T L tr m) ∧ oMm q m s s' ∧ (s'.1 58 7 = 0 → TYr T L q s' m) := by
  have X0 := X
  have D0 := D
  have hq := X.2.2.2.2.1
  have hq' : q = 2 ∨ q = 30 := hq
  have h16 := X.2.2.1.1
  obtain ⟨d1, d2, d3, d4, d5⟩ := D
  obtain ⟨m1, m2, m3, m4, m5, m6, m7⟩ := d5 m hm
  obtain ⟨p1, p2, p3, p4, p5, p6⟩ := P m hm
  have te := p1.te
  have l6 : (psM L m).length ≤ 6 := p5
  have pre : mjF (d + 5) 67 [.ref 71, .int (nI (hmM L m)), .int (nI m)] (mjW0 s) = _ := e_67 (d := d + 4)
  unfold f_67 b_67_0 b_67_70 at pre
  rw [xg_71_0, xg_71_1, xg_64_6, wa_68 (by omega), m3, xV_58, j_go X.1 f hcu te.1, bN_s, xg_71_3] at pre
  obtain ⟨z0, hz0⟩ : ∃ z0, z0 = tkGo s (mdM L m).1 := ⟨_, rfl⟩
  have o0 : o58 s z0 := by rw [hz0]; exact o58.go _ _
  have f0 : fne z0 (mdM L m).1 := by rw [hz0]; exact f.go _
  have Xz := X0.o58 o0
  rw [← hz0, Xz.2.2.2.2.2.1.2, ymg_3 hq, xV_71] at pre
  have Z := x_68 (d := d) (h := some (hmM L m)) Xz (fun c hc => by cases hc; exact m2) f0 p1 tr (by rw [o0.r (by decide)]; exact ht) (K.o58 hq o0) (I.o58 hq o0)
  rw [oI_s] at Z
  have rest : ∀ (w0 : Int32) (z : mjSt3), o58 s z → GB N z → (z.1 58 7 = 0 → fne z (mdM L m).2.1) → (z.1 58 7 = 0 → w0 = tyI (tyT T L (some (hmM L m)) (mdM L m).1)) → (z.1 58 7 = 0 ↔ tyOK T L tr (some (hmM L m)) (mdM L m).1) → mjF (d + 4) 68 [.ref 71, .int (nI (hmM L m))] (mjW0 z0) = some (some (.int w0), mjW0 z) → ∃ s', mjF (d + 5) 67 [.ref 71, .int (nI (hmM L m)), .int (nI m)] (mjW0 s) = some (none, mjW0 s') ∧ GB N s' ∧ (s'.1 58 7 = 0 ↔ OKm T L tr m) ∧ oMm q m s s' ∧ (s'.1 58 7 = 0 → TYr T L q s' m) := by
    intro w0 z oz gz fz wz iz pr
    have pre2 := pre
    obtain ⟨y, hy⟩ : ∃ y, y = uI z (q + 17) (upd (z.1 (q + 17)) m w0) := ⟨_, rfl⟩
    have oy : oMm q m z y := by rw [hy]; exact offG.w (Or.inr (Or.inl ⟨rfl, rfl⟩))
    have osy : oMm q m s y := (oz.s74.Mm).tr oy
    have y58 : y.1 58 = z.1 58 := by rw [hy]; exact uI_ne _ _ _ _ (by omega)
    have ys2 : y.2 = s.2 := by rw [hy, uI_l, oz.l]
    have Xy := X0.oJ osy.J
    have Dy := D0.oJ hq osy.J
    have gy : GB N y := gz.cg y58
    obtain ⟨e1, e2, e3, e4, e5⟩ := id Dy
    obtain ⟨n1, n2, n3, n4, n5, n6, n7⟩ := e5 m hm
    have x119 := x_119 (d := d + 3) hq Dy P Xy.2.1 h16 n2 (t := (mdM L m).2.1) (by omega) p3
    rw [pr, bI_s, wys_17 hq (by omega), ← hy, xg_71_1, xg_64_7, wa_69 (by omega), n4, xg_71_2, Xy.2.2.2.2.2.1.1, xg_71_3, Xy.2.2.2.2.2.1.2, ymg_1 hq, wya_15 hq (by omega), n5, yV hq, x119, bI_s, xg_71_0, xV_58] at pre2
    -- behind the NAME
    have fin : ∀ z2, o58 y z2 → GB N z2 → (z2.1 58 7 = 0 ↔ tyOK T L tr (some (hmM L m)) (mdM L m).1 ∧ omT T L (hmM L m) (nkM T L m) = some m) → mjF (d + 5) 67 [.ref 71, .int (nI (hmM L m)), .int (nI m)] (mjW0 s) = bN (mjF (d + 4) 179 [.ref 58, .int (nI (mdM L m).2.1 + 2)] (mjW0 z2)) (fun hp2 => L_67_83 (mjF (d + 4)) mjN 71 (nI (hmM L m)) (nI m) 0 hp2) → ∃ s', mjF (d + 5) 67 [.ref 71, .int (nI (hmM L m)), .int (nI m)] (mjW0 s) = some (none, mjW0 s') ∧ GB N s' ∧ (s'.1 58 7 = 0 ↔ OKm T L tr m) ∧ oMm q m s s' ∧ (s'.1 58 7 = 0 → TYr T L q s' m) := by
      intro z2 o2 g2 i2 pr2
      have os2 : oMm q m s z2 := osy.tr o2.s74.Mm
      have X2 := X0.oJ os2.J
      have G : ∃ z3, mjF (d + 4) 179 [.ref 58, .int (nI (mdM L m).2.1 + 2)] (mjW0 z2) = some (none, mjW0 z3) ∧ o58 z2 z3 ∧ GB N z3 ∧ (z3.1 58 7 = 0 → fne z3 ((mdM L m).2.1 + 2)) ∧ (z3.1 58 7 = 0 ↔ z2.1 58 7 = 0) := by
        rw [show nI (mdM L m).2.1 + (2 : Int32) = nI ((mdM L m).2.1 + 2) from nI_add _ 2]
        by_cases h7 : z2.1 58 7 = 0
        · obtain ⟨c2, hc2, f2⟩ := g2.f h7
          exact ⟨_, j_go X2.1 f2 hc2 p4, o58.go _ _, GB.of (f2.go _) p4, fun _ => f2.go _, ⟨fun _ => h7, fun _ => (f2.go _).2⟩⟩
        · exact ⟨z2, j_goB (g2.b h7) _, offG.rf, g2, fun h => absurd h h7, Iff.rfl⟩
      obtain ⟨z3, g1, g3, g4, g5, g6⟩ := G
      have os3 : oMm q m s z3 := os2.tr g3.s74.Mm
      obtain ⟨s', c1, c2, c3, c4, c5, c6⟩ := lq_67 (d := d) (q := q) P tr hm (psM L m).length 0 mjN z3 (by omega) (by have := mjN_v; omega) (X0.oJ os3.J) (D0.oJ hq os3.J) (by rw [os3.r (by decide) (by omega) (by omega)]; exact ht) (K.off (os3.r (by omega) (by omega) (by omega))) (I.off (os3.r (by omega) (by omega) (by omega)) (os3.r (by omega) (by omega) (by omega))) g4 g5 (fun _ j p hj => absurd hj (by omega))
      refine ⟨s', by rw [pr2, g1, bN_s]; exact c1, c2, ?_, os3.tr c4, fun h => ⟨?_, c6 h⟩⟩
      · rw [c3, g6, i2]
        constructor
        · intro ⟨⟨a, b⟩, x⟩
          exact ⟨a, b, fun i hi => x i (by omega) hi⟩
        · intro ⟨a, b, x⟩
          exact ⟨⟨a, b⟩, fun i _ hi => x i hi⟩
      · have z7 : z.1 58 7 = 0 := iz.mpr (i2.mp (g6.mp (c3.mp h).1)).1
        rw [c5, g3.r (by omega), o2.r (by omega), hy, uI_same, upd_g, if_pos rfl]
        exact wz z7
    have y7 : y.1 58 7 = 0 ↔ tyOK T L tr (some (hmM L m)) (mdM L m).1 := by rw [y58]; exact iz
    by_cases eo : omT T L (hmM L m) (nkM T L m) = some m
    · rw [show omT T L (hmM L m) (kyT T (mdM L m).2.1) = some m from eo, oI_s, if_pos rfl] at pre2
      exact fin y offG.rf gy ⟨fun h => ⟨y7.mp h, eo⟩, fun h => y7.mpr h.1⟩ pre2
    · have ne : ¬ oI (omT T L (hmM L m) (kyT T (mdM L m).2.1)) = nI m := by
        intro x
        cases ho : omT T L (hmM L m) (kyT T (mdM L m).2.1) with
        | none => rw [ho] at x; exact absurd x.symm (nI_m1 (by omega))
        | some a =>
          have ha : a < 384 := by
            unfold omT at ho
            cases hf : fnd (fun i => decide (nkM T L (fmL L (hmM L m) + i) = kyT T (mdM L m).2.1)) (mcL L (hmM L m)) with
            | none => rw [hf] at ho; cases ho
            | some i =>
              rw [hf] at ho
              cases ho
              have := fnd_lt hf
              have := d4 _ m2
              omega
          rw [ho, oI_s] at x
          have := (nI_eq (by omega) (by omega)).mp x
          rw [this] at ho
          exact eo ho
      rw [if_neg ne, xg_71_0, xV_58] at pre2
      obtain ⟨z2, b1, b2', b3⟩ := j_atG (d := d + 3) (k := 4) (t := (mdM L m).2.1) Xy.1 gy (by omega) (by decide)
      rw [b1, bN_s, xg_71_0, xV_58] at pre2
      exact fin z2 b3 (GB.ob b2') ⟨fun h => absurd h b2'.2, fun h => absurd h.2 eo⟩ pre2
  by_cases ok : tyOK T L tr (some (hmM L m)) (mdM L m).1
  · refine rest _ _ (o0.tr (o58.go _ _)) (GB.of (f0.go _) te.2) (fun _ => ?_) (fun _ => rfl) ⟨fun _ => ok, fun _ => (f0.go _).2⟩ (Z.1 ok)
    rw [← p2]; exact f0.go _
  · obtain ⟨w0, z, z1, z2, z3⟩ := Z.2 ok
    exact rest w0 z (o0.tr z3) (GB.ob z2) (fun h => absurd h z2.2) (fun h => absurd h z2.2) ⟨fun h => absurd h z2.2, fun h => absurd h ok⟩ z1
def oMs (q : Nat) : mjSt3 → mjSt3 → Prop := offG (fun h j => c58 h j ∨ (h = q + 17 ∧ ¬ j = 384) ∨ h = q + 21) (fun h _ => h = 74)
theorem oMm.sub (hm : ¬ m = 384) (o : oMm q m s s') : oMs q s s' := offG.mono o (fun x y z => by
  rcases z with z | z | z
  · exact Or.inl z
  · exact Or.inr (Or.inl ⟨z.1, by rw [z.2]; exact hm⟩)
  · exact Or.inr (Or.inr z.1)) (fun _ _ z => z)
theorem oMs.J (o : oMs q s s') : oJ q s s' := offG.mono o (fun x y z => by
  rcases z with z | z | z
  · exact Or.inl z
  · exact Or.inr (by omega)
  · exact Or.inr (by omega)) (fun _ _ z => Or.inl z)
theorem oMs.r (o : oMs q s s') {h : Nat} (h1 : ¬ h = 58) (h2 : ¬ h = q + 17) (h3 : ¬ h = q + 21) : s'.1 h = s.1 h := funext fun j => o.1 h j (by unfold c58; omega)
theorem L66_S (R : mjR) (n a : Nat) (b : Int32) (hp : mjH) : L_66_2 R (n + 1) a b hp = b_66_2 R (L_66_2 R n) a b hp := rfl
theorem L66b_S (R : mjR) (k2 : Nat → Int32 → mjH → mjU) (n a : Nat) (b e f : Int32) (hp : mjH) : L_66_89 R k2 (n + 1) a b e f hp = b_66_89 R k2 (L_66_89 R k2 n) a b e f hp := rfl
theorem lq_66b (P : PFm T N L) (tr : Bool) (k2 : Nat → Int32 → mjH → mjU) (hc : c < L.length) : ∀ (r i n : Nat) (s : mjSt3), i + r = mcL L c → r < n → JX T N q L s → RDM T N q L s → s.1 71 4 = b2 tr → KNW q s (knF T L) → INP q s (inL L) (ipT T L) → GB N s → (s.1 58 7 = 0 → ∀ m, m < fmL L c + i → TYr T L q s m) → ∃ s', L_66_89 (mjF (d + 5)) k2 n 71 (nI c) (nI (fmL L c)) (nI (fmL L c + i)) (mjW0 s) = k2 71 (nI (c + 1)) (mjW0 s') ∧ GB N s' ∧ (s'.1 58 7 = 0 ↔ s.1 58 7 = 0 ∧ ∀ j, i ≤ j → j < mcL L c → OKm T L tr (fmL L c + j)) ∧ oMs q s s' ∧ (s'.1 58 7 = 0 → ∀ m, m < fmL L c + mcL L c → TYr T L q s' m)
  | 0, i, n + 1, s, e, _, X, D, ht, K, I, g, w => by
    have hq := X.2.2.2.2.1
    have h16 := X.2.2.1.1
    obtain ⟨d1, d2, d3, d4, d5⟩ := D
    have b4 := d4 c hc
    refine ⟨s, ?_, g, ⟨fun h => ⟨h, fun a h1 h2 => absurd h1 (by omega)⟩, fun h => h.1⟩, offG.rf, fun h m hm => w h m (by omega)⟩
    rw [L66b_S]
    unfold b_66_89 b_66_128
    rw [xg_71_2, X.2.2.2.2.2.1.1, yg_10 hq, wya_10 hq (by omega), (d1 c hc).2, nI_add, if_pos (nI_le (by omega) (by omega)), nI_1]
  | r + 1, i, n + 1, s, e, hr, X, D, ht, K, I, g, w => by
    have hq := X.2.2.2.2.1
    have hq' : q = 2 ∨ q = 30 := hq
    have h16 := X.2.2.1.1
    have D0 := D
    obtain ⟨d1, d2, d3, d4, d5⟩ := D
    have b4 := d4 c hc
    have hma := hm_at (L := L) hc (show i < mcL L c by omega)
    have pre : L_66_89 (mjF (d + 5)) k2 (n + 1) 71 (nI c) (nI (fmL L c)) (nI (fmL L c + i)) (mjW0 s) = _ := L66b_S _ _ _ _ _ _ _ _
    unfold b_66_89 b_66_128 at pre
    rw [xg_71_2, X.2.2.2.2.2.1.1, yg_10 hq, wya_10 hq (by omega), (d1 c hc).2, nI_add, if_neg (nI_ge (by omega) (by omega)), xg_71_0, xV_58] at pre
    by_cases h7 : s.1 58 7 = 0
    · obtain ⟨cu, hcu, f⟩ := g.f h7
      obtain ⟨z, a1, a2, a3, a4, a5⟩ := x_67 (d := d) P tr (m := fmL L c + i) (by omega) X D0 ht K I f hcu
      rw [hma] at a1
      rw [j_fine f, bI_s, if_neg (by decide), xV_71, a1, bN_s, nI_1] at pre
      obtain ⟨s', b1, b2', b3, b5, b6⟩ := lq_66b P tr k2 hc r (i + 1) n z (by omega) (by omega) (X.oJ a4.J) (D0.oJ hq a4.J) (by rw [a4.r (by decide) (by omega) (by omega)]; exact ht) (K.off (a4.r (by omega) (by omega) (by omega))) (I.off (a4.r (by omega) (by omega) (by omega)) (a4.r (by omega) (by omega) (by omega))) a2 (fun h m hm => by
        by_cases em : m = fmL L c + i
        · rw [em]; exact a5 h
        · have w0 := w h7 m (by omega)
          have l6 : (psM L m).length ≤ 6 := (P m (by omega)).2.2.2.2.1
          refine ⟨by rw [a4.1 (q + 17) m (by unfold c58; omega)]; exact w0.1, fun j hj => ?_⟩
          rw [a4.1 (q + 21) _ (by unfold c58; omega)]; exact w0.2 j hj)
      refine ⟨s', pre.trans b1, b2', ?_, (oMm.sub (show ¬ fmL L c + i = 384 by omega) a4).tr b5, b6⟩
      rw [b3, a3]
      constructor
      · intro ⟨x, y⟩
        refine ⟨h7, fun j h1 h2 => ?_⟩
        by_cases ej : j = i
        · rw [ej]; exact x
        · exact y j (by omega) h2
      · intro ⟨x, y⟩
        exact ⟨y i (by omega) (by omega), fun j h1 h2 => y j (by omega) h2⟩
    · rw [j_fineB (g.b h7), bI_s, if_pos rfl, nI_1] at pre
      exact ⟨s, pre, g, ⟨fun h => absurd h h7, fun h => absurd h.1 h7⟩, offG.rf, fun h => absurd h h7⟩
theorem fm_S (hc : c < L.length) : fmL L (c + 1) = fmL L c + mcL L c := by
  obtain ⟨D, hD⟩ : ∃ D, L[c]? = some D := ⟨_, List.getElem?_eq_getElem hc⟩
  unfold fmL mcL
  rw [hD, List.take_succ, hD]
  show nMem (L.take c ++ [D]) = _
  rw [nMem_app]
theorem lq_66 (P : PFm T N L) (Pi : PFi T N L) (tr : Bool) : ∀ (r c n : Nat) (s : mjSt3), c + r = L.length → r < n → JX T N q L s → RDR L s → ABK T L q s → RDM T N q L s → s.1 71 4 = b2 tr → KNW q s (knF T L) → INP q s (inL L) (ipT T L) → GB N s → (s.1 58 7 = 0 → ∀ m, m < fmL L c → TYr T L q s m) → ∃ s', L_66_2 (mjF (d + 5)) n 71 (nI c) (mjW0 s) = some (none, mjW0 s') ∧ GB N s' ∧ (s'.1 58 7 = 0 ↔ s.1 58 7 = 0 ∧ ∀ j, c ≤ j → j < L.length → OKd T L tr j) ∧ oMs q s s' ∧ (s'.1 58 7 = 0 → ∀ m, m < nMem L → TYr T L q s' m)
  | 0, c, n + 1, s, e, _, X, Rr, A, D, ht, K, I, g, w => by
    have hq := X.2.2.2.2.1
    have h16 := X.2.2.1.1
    refine ⟨s, ?_, g, ⟨fun h => ⟨h, fun a h1 h2 => absurd h1 (by omega)⟩, fun h => h.1⟩, offG.rf, fun h m hm => w h m ?_⟩
    · rw [L66_S]
      unfold b_66_2
      rw [xg_71_2, X.2.2.2.2.2.1.1, yg_0 hq, X.2.2.2.2.2.2.2, if_pos (nI_le (by omega) (by omega))]
    · unfold fmL
      rw [show c = L.length by omega, List.take_length]
      exact hm
  | r + 1, c, n + 1, s, e, hr, X, Rr, A, D, ht, K, I, g, w => by
    have hq := X.2.2.2.2.1
    have hq' : q = 2 ∨ q = 30 := hq
    have hn := X.2.2.1
    have h16 := hn.1
    have hc : c < L.length := by omega
    have b4 := D.2.2.2.1 c hc
    have pre : L_66_2 (mjF (d + 5)) (n + 1) 71 (nI c) (mjW0 s) = _ := L66_S _ _ _ _ _
    unfold b_66_2 at pre
    rw [xg_71_2, X.2.2.2.2.2.1.1, yg_0 hq, X.2.2.2.2.2.2.2, if_neg (nI_ge (by omega) (by omega)), xg_71_0, xV_58] at pre
    by_cases h7 : s.1 58 7 = 0
    · obtain ⟨cu, hcu, f⟩ := g.f h7
      rw [j_fine f, bI_s, if_neg (by decide), xg_71_2, X.2.2.2.2.2.1.1, yg_5 hq, wya_5 hq (by omega), A c (by omega), if_pos hc] at pre
      have rest : ∀ z, o58 s z → GB N z → (z.1 58 7 = 0 ↔ ∀ k, abT T L c = some k → (tr || nsT T L (some c) k) = true) → L_66_2 (mjF (d + 5)) (n + 1) 71 (nI c) (mjW0 s) = b_66_76 (mjF (d + 5)) (L_66_2 (mjF (d + 5)) n) 71 (nI c) (mjW0 z) → ∃ s', L_66_2 (mjF (d + 5)) (n + 1) 71 (nI c) (mjW0 s) = some (none, mjW0 s') ∧ GB N s' ∧ (s'.1 58 7 = 0 ↔ s.1 58 7 = 0 ∧ ∀ j, c ≤ j → j < L.length → OKd T L tr j) ∧ oMs q s s' ∧ (s'.1 58 7 = 0 → ∀ m, m < nMem L → TYr T L q s' m) := by
        intro z oz gz iz pr
        have ozs : oMs q s z := offG.mono oz (fun _ _ h => Or.inl h) (fun _ _ h => h.elim)
        have Xz := X.o58 oz
        have Dz := D.oJ hq ozs.J
        unfold b_66_76 at pr
        rw [xg_71_2, Xz.2.2.2.2.2.1.1, yg_9 hq, wya_9 hq (by omega), (Dz.1 c hc).1] at pr
        obtain ⟨y, a1, a2, a3, a4, a5⟩ := lq_66b (d := d) P tr (L_66_2 (mjF (d + 5)) n) hc (mcL L c) 0 mjN z (by omega) (by have := mjN_v; omega) Xz Dz (by rw [oz.r (by decide)]; exact ht) (K.o58 hq oz) (I.o58 hq oz) gz (fun _ m hm => by
          have w0 := w h7 m (by omega)
          unfold TYr
          rw [oz.r (by omega), oz.r (by omega)]
          exact w0)
        rw [show fmL L c + 0 = fmL L c from rfl] at a1
        rw [a1] at pr
        have oy : oMs q s y := ozs.tr a4
        obtain ⟨s', b1, b2', b3, b5, b6⟩ := lq_66 P Pi tr r (c + 1) n y (by omega) (by omega) (X.oJ oy.J) (Rr.oJ hq oy.J) (by unfold ABK; rw [oy.r (by omega) (by omega) (by omega)]; exact A) (D.oJ hq oy.J) (by rw [oy.r (by decide) (by omega) (by omega)]; exact ht) (K.off (oy.r (by omega) (by omega) (by omega))) (I.off (oy.r (by omega) (by omega) (by omega)) (oy.r (by omega) (by omega) (by omega))) a2 (fun h m hm => a5 h m (by rw [← fm_S hc]; exact hm))
        refine ⟨s', pr.trans b1, b2', ?_, oy.tr b5, b6⟩
        rw [b3, a3, iz]
        constructor
        · intro ⟨⟨x, y⟩, v⟩
          refine ⟨h7, fun j h1 h2 => ?_⟩
          by_cases ej : j = c
          · rw [ej]; exact ⟨x, fun i hi => y i (by omega) hi⟩
          · exact v j (by omega) h2
        · intro ⟨x, y⟩
          exact ⟨⟨(y c (by omega) hc).1, fun i _ hi => (y c (by omega) hc).2 i hi⟩, fun j h1 h2 => y j (by omega) h2⟩
      cases hab : abT T L c with
      | none =>
        rw [hab, oI_n, if_pos (by decide)] at pre
        exact rest s offG.rf g ⟨fun _ k hk => (by rw [hab] at hk; cases hk), fun _ => h7⟩ pre
      | some k =>
        have vk := ab_v hn hc hab
        have kl := vk.lt hn
        rw [hab, oI_s, if_neg (nI_pos (by omega)), xg_71_4, ht, b2_i] at pre
        cases tr with
        | true =>
          rw [if_pos rfl] at pre
          exact rest s offG.rf g ⟨fun _ k hk => rfl, fun _ => h7⟩ pre
        | false =>
          rw [if_neg (by decide), xg_71_2, X.2.2.2.2.2.1.1, yV hq, show nI c = oI (some c) from rfl, x_nested (h := some c) hq X.2.2.2.2.2.2.1 K I (fun c' hc' => by cases hc'; omega) (by omega) (by have := vk.cl hn; omega) (vK.n5 hn (vk.cl hn)).1 (vk.ow hn), bI_s, b2_i, oI_s] at pre
          by_cases hb : nsT T L (some c) k = true
          · rw [if_pos (show nst (nmL L) (inL L) (ipT T L) (knF T L) (some c) k = true from hb)] at pre
            exact rest s offG.rf g ⟨fun _ k' hk' => (by rw [hab] at hk'; cases hk'; exact hb), fun _ => h7⟩ pre
          · rw [if_neg (show ¬ nst (nmL L) (inL L) (ipT T L) (knF T L) (some c) k = true from hb), xg_71_0, xg_71_1, xg_64_4, wa_66 (by omega), (Rr c hc).2.1, xV_58] at pre
            have hz : ¬ (hC L c).2.2.1 = 0 := by
              intro hz
              unfold abT at hab
              rw [if_pos hz] at hab
              cases hab
            have kd := ((Pi c hc).1 hz).2.2.2.1
            rw [if_neg hz, show nI ((hC L c).2.2.1 - 1) + 1 = nI (hC L c).2.2.1 by rw [nI_1, show (hC L c).2.2.1 - 1 + 1 = (hC L c).2.2.1 by omega]] at pre
            obtain ⟨z, b1, b2', b3⟩ := j_atG (d := d + 4) (k := 8) (t := (hC L c).2.2.1) X.1 g (by omega) (by decide)
            rw [b1, bN_s] at pre
            exact rest z b3 (GB.ob b2') ⟨fun h => absurd h b2'.2, fun h => absurd (h k hab) (by simpa using hb)⟩ pre
    · rw [j_fineB (g.b h7), bI_s, if_pos rfl] at pre
      exact ⟨s, pre, g, ⟨fun h => absurd h h7, fun h => absurd h.1 h7⟩, offG.rf, fun h => absurd h h7⟩
/-- judgeMembers -/
theorem x_66 (P : PFm T N L) (Pi : PFi T N L) {tr : Bool} (X : JX T N q L s) (Rr : RDR L s) (A : ABK T L q s) (D : RDM T N q L s) (ht : s.1 71 4 = b2 tr) (K : KNW q s (knF T L)) (I : INP q s (inL L) (ipT T L)) (g : GB N s) : ∃ s', mjF (d + 6) 66 [.ref 71] (mjW0 s) = some (none, mjW0 s') ∧ GB N s' ∧ (s'.1 58 7 = 0 ↔ s.1 58 7 = 0 ∧ ∀ j, j < L.length → OKd T L tr j) ∧ oMs q s s' ∧ (s'.1 58 7 = 0 → ∀ m, m < nMem L → TYr T L q s' m) := by
  obtain ⟨s', a1, a2, a3, a4⟩ := lq_66 (d := d) P Pi tr L.length 0 mjN s (by omega) (by have := X.2.2.1.1; have := mjN_v; omega) X Rr A D ht K I g (fun _ m hm => absurd hm (by unfold fmL nMem; simp))
  refine ⟨s', ?_, a2, ?_, a4⟩
  · rw [e_66]
    unfold f_66 b_66_0
    exact a1
  · rw [a3]
    exact ⟨fun ⟨u, v⟩ => ⟨u, fun j hj => v j (by omega) hj⟩, fun ⟨u, v⟩ => ⟨u, fun j _ hj => v j hj⟩⟩
end MJA18
