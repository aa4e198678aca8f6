/-! ===== (d): one MEMBER ===== -/
def o74 : mjSt3 → mjSt3 → Prop := offG c58 (fun h _ => h = 74)
def oMm (q m : Nat) : mjSt3 → mjSt3 → Prop := offG (fun h j => c58 h j ∨ (h = q + 17 ∧ j = m) ∨ (h = q + 21 ∧ 6 * m ≤ j ∧ j < 6 * m + 6)) (fun h _ => h = 74)
def psM (L : List CD) (m : Nat) : List (Nat × Nat × Int32) := (mdM L m).2.2.2.1
/-- where PARAM i of MEMBER m begins -/
def posP (L : List CD) (m i : Nat) : Nat := match i with
  | 0 => (mdM L m).2.1 + 2
  | j + 1 => (match (psM L m)[j]? with
    | some p' => p'.2.1 + 2
    | none => 0)
def OKp (T : TT) (L : List CD) (tr : Bool) (m i : Nat) : Prop := ∀ (p : Nat × Nat × Int32), (psM L m)[i]? = some p → tyOK T L tr (some (hmM L m)) p.1 ∧ ∀ (j : Nat) (p' : Nat × Nat × Int32), j < i → (psM L m)[j]? = some p' → ¬ kyT T p'.2.1 = kyT T p.2.1
def OKm (T : TT) (L : List CD) (tr : Bool) (m : Nat) : Prop := tyOK T L tr (some (hmM L m)) (mdM L m).1 ∧ omT T L (hmM L m) (nkM T L m) = some m ∧ ∀ i, i < (psM L m).length → OKp T L tr m i
def pyT (T : TT) (L : List CD) (m i : Nat) : Nat := match (psM L m)[i]? with
  | some p => tyT T L (some (hmM L m)) p.1
  | none => 0
section MJA17
variable {T : TT} {d N q c t n e k u v i m : Nat} {s s' : mjSt3} {L : List CD} {h : Option Nat}
theorem o58.s74 (o : o58 s s') : o74 s s' := offG.mono o (fun _ _ h => h) (fun _ _ h => h.elim)
theorem o74.Mm (o : o74 s s') : oMm q m s s' := offG.mono o (fun _ _ h => Or.inl h) (fun _ _ h => h)
theorem oMm.J (o : oMm q m s s') : oJ q s s' := offG.mono o (fun x y z => by
  rcases z with z | z | z
  · exact Or.inl z
  · exact Or.inr (by omega)
  · exact Or.inr (by omega)) (fun _ _ z => Or.inl z)
theorem RDM.oJ (D : RDM T N q L s) (hq : isP q) (o : oJ q s s') : RDM T N q L s' := by
  have hq : q = 2 ∨ q = 30 := hq
  obtain ⟨d1, d2, d3, d4, d5⟩ := D
  have r : ∀ h, h = 68 ∨ h = 69 ∨ h = q + 9 ∨ h = q + 10 ∨ h = q + 14 ∨ h = q + 16 ∨ h = q + 18 ∨ h = q + 20 → s'.1 h = s.1 h := fun h hh => funext fun j => o.1 h j (by unfold c58; omega)
  have l : ∀ h, h = 62 ∨ h = q + 15 → s'.2.1 h = s.2.1 h := fun h hh => funext fun j => o.2.1 h j (by omega)
  refine ⟨fun c hc => ?_, ?_, d3, d4, fun m hm => ?_⟩
  · rw [r (q + 9) (by omega), r (q + 10) (by omega)]; exact d1 c hc
  · rw [r (q + 14) (by omega)]; exact d2
  · rw [r (q + 16) (by omega), r 68 (by omega), r 69 (by omega), r (q + 18) (by omega), r (q + 20) (by omega), l (q + 15) (by omega), l 62 (by omega)]; exact d5 m hm
theorem L69_S (R : mjR) (n a : Nat) (b : Int32) (e : Int64) (f : Int32) (hp : mjH) : L_69_18 R (n + 1) a b e f hp = b_69_18 R (L_69_18 R n) a b e f hp := rfl
/-- the loop over the NAMES ahead -/
theorem lq_69 {key : Int64} (hi : i ≤ 6) (hc : c ≤ N) (m0 : Nat) : ∀ (r j : Nat) (s : mjSt3), j + r = i → TH T N s → GB N s → (s.1 58 7 = 0 → fne s c) → ∃ s1, L_69_18 (mjF (d + 1)) (m0 + 1 + r) 71 (nI i) key (nI j) (mjW0 s) = L_69_18 (mjF (d + 1)) (m0 + 1) 71 (nI i) key (nI i) (mjW0 s1) ∧ o58 s s1 ∧ GB N s1 ∧ (s1.1 58 7 = 0 → fne s1 c) ∧ (s1.1 58 7 = 0 ↔ s.1 58 7 = 0 ∧ ∀ a, j ≤ a → a < i → ¬ s.2.1 74 a = key)
  | 0, j, s, e, hT, g, f => by
    refine ⟨s, ?_, offG.rf, g, f, ⟨fun h => ⟨h, fun a h1 h2 => absurd h1 (by omega)⟩, fun h => h.1⟩⟩
    rw [show j = i by omega]
  | r + 1, j, s, e, hT, g, f => by
    have pre : L_69_18 (mjF (d + 1)) (m0 + 1 + (r + 1)) 71 (nI i) key (nI j) (mjW0 s) = _ := L69_S _ (m0 + 1 + r) _ _ _ _ _
    unfold b_69_18 b_69_44 at pre
    rw [if_neg (nI_ge (by omega) (by omega)), xg_71_7, wa_74 (by omega), xg_71_0, xV_58, nI_1] at pre
    by_cases ek : s.2.1 74 j = key
    · rw [if_pos ((lg_cmp_eq _ _).mpr ek)] at pre
      have R : ∃ z, mjF (d + 1) 165 [.ref 58, .int 4] (mjW0 s) = some (none, mjW0 z) ∧ bdd N z ∧ o58 s z := by
        by_cases h7 : s.1 58 7 = 0
        · exact j_ref hT (f h7) hc (by decide)
        · exact ⟨s, j_refB hT (g.b h7), g.b h7, offG.rf⟩
      obtain ⟨z, z1, z2, z3⟩ := R
      rw [z1, bN_s] at pre
      obtain ⟨s1, a1, a2, a3, a4, a5⟩ := lq_69 hi hc m0 r (j + 1) z (by omega) (hT.o58 z3) (GB.ob z2) (fun h => absurd h z2.2)
      refine ⟨s1, pre.trans a1, z3.tr a2, a3, a4, ?_⟩
      rw [a5]
      exact ⟨fun h => absurd h.1 z2.2, fun h => absurd ek (h.2 j (by omega) (by omega))⟩
    · rw [if_neg (fun x => ek ((lg_cmp_eq _ _).mp x))] at pre
      obtain ⟨s1, a1, a2, a3, a4, a5⟩ := lq_69 hi hc m0 r (j + 1) s (by omega) hT g f
      refine ⟨s1, pre.trans a1, a2, a3, a4, ?_⟩
      rw [a5]
      constructor
      · intro ⟨x, y⟩
        refine ⟨x, fun a h1 h2 => ?_⟩
        by_cases ea : a = j
        · rw [ea]; exact ek
        · exact y a (by omega) h2
      · intro ⟨x, y⟩
        exact ⟨x, fun a h1 h2 => y a (by omega) h2⟩
/-- judgeParamName -/
theorem x_69 (hT : TH T N s) (hi : i < 6) (g : GB N s) (f : s.1 58 7 = 0 → fne s c) (hc : c + 2 ≤ N) : ∃ s', mjF (d + 2) 69 [.ref 71, .int (nI i)] (mjW0 s) = some (none, mjW0 s') ∧ o74 s s' ∧ GB N s' ∧ (s'.1 58 7 = 0 → fne s' (c + 2) ∧ ∀ j, s'.2.1 74 j = if j = i then s.2.1 62 c else s.2.1 74 j) ∧ (s'.1 58 7 = 0 ↔ s.1 58 7 = 0 ∧ ∀ a, a < i → ¬ s.2.1 74 a = s.2.1 62 c) := by
  obtain ⟨⟨cu, hcu, fcu⟩, _⟩ := id g
  obtain ⟨m0, hm0⟩ : ∃ m0, mjN = m0 + 1 + i := ⟨mjN - 1 - i, by have := mjN_v; omega⟩
  have pre : mjF (d + 2) 69 [.ref 71, .int (nI i)] (mjW0 s) = _ := e_69 (d := d + 1)
  unfold f_69 b_69_0 at pre
  rw [xg_71_0, xg_71_0, xV_58, j_now hT fcu hcu, bI_s, xV_58, j_key hT fcu hcu hcu, bL_s, hm0] at pre
  obtain ⟨s1, a1, a2, a3, a4, a5⟩ := lq_69 (d := d) (key := s.2.1 62 cu) (by omega : i ≤ 6) (show c ≤ N by omega) m0 i 0 s (by omega) hT g f
  rw [show (0 : Int32) = nI 0 from rfl, a1, L69_S] at pre
  unfold b_69_18 at pre
  rw [if_pos (Int32.le_refl _), xg_71_7, ws_74 (by omega), xg_71_0, xV_58] at pre
  obtain ⟨z, hz⟩ : ∃ z, z = uL s1 74 (vp_updL (s1.2.1 74) i (s.2.1 62 cu)) := ⟨_, rfl⟩
  have oz : o74 s1 z := by rw [hz]; exact offG.wl rfl
  have z1 : z.1 = s1.1 := by rw [hz]; rfl
  have hTz : TH T N z := by
    have h := hT.o58 a2
    exact ⟨by rw [z1]; exact h.1, h.2.1, h.2.2.1, fun k hk => by rw [z1]; exact h.2.2.2 k hk⟩
  rw [← hz] at pre
  by_cases h7 : s1.1 58 7 = 0
  · have fz : fne z c := ⟨by rw [z1]; exact (a4 h7).1, by rw [z1]; exact h7⟩
    have f1 := fz.go (c + 1)
    have hT1 : TH T N (tkGo z (c + 1)) := hTz.o58 (o58.go _ _)
    rw [j_skip hTz fz (by omega), bN_s, xg_71_0, xV_58, j_skip hT1 f1 (by omega), bN_s] at pre
    have f2 := f1.go (c + 1 + 1)
    have s0 := a5.mp h7
    have ecu : cu = c := by
      have := (f s0.1).1
      rw [fcu] at this
      exact (nI_eq (by have := hT.2.1; omega) (by have := hT.2.1; omega)).mp this
    refine ⟨_, pre, a2.s74.tr (oz.tr ((o58.go _ _).s74.tr (o58.go _ _).s74)), GB.of f2 (by omega), fun _ => ⟨f2, fun j => ?_⟩, ?_⟩
    · show z.2.1 74 j = _
      rw [hz, uL_same]
      show (if j = i then s.2.1 62 cu else s1.2.1 74 j) = _
      rw [a2.l, ecu]
    · refine ⟨fun _ => ⟨s0.1, fun a ha => by rw [← ecu]; exact s0.2 a (by omega) ha⟩, fun _ => f2.2⟩
  · have bz : bdd N z := ⟨by rw [z1]; exact a3.2 h7, by rw [z1]; exact h7⟩
    rw [j_skipB hTz bz, bN_s, xg_71_0, xV_58, j_skipB hTz bz, bN_s] at pre
    refine ⟨z, pre, a2.s74.tr oz, GB.ob bz, fun h => absurd h bz.2, ⟨fun h => absurd h bz.2, fun h => ?_⟩⟩
    exfalso
    have ecu : cu = c := by
      have := (f h.1).1
      rw [fcu] at this
      exact (nI_eq (by have := hT.2.1; omega) (by have := hT.2.1; omega)).mp this
    exact h7 (a5.mpr ⟨h.1, fun a _ ha => by rw [ecu]; exact h.2 a ha⟩)
theorem L67_S (R : mjR) (n a : Nat) (b e f : Int32) (hp : mjH) : L_67_83 R (n + 1) a b e f hp = b_67_83 R (L_67_83 R n) a b e f hp := rfl
theorem ps_at (hm : i < (psM L m).length) : ∃ p, (psM L m)[i]? = some p := ⟨_, List.getElem?_eq_getElem hm⟩
theorem PFm.pos (P : PFm T N L) (hm : m < nMem L) {p : Nat × Nat × Int32} (hp : (psM L m)[i]? = some p) : p.1 = posP L m i ∧ posP L m (i + 1) = p.2.1 + 2 := by
  obtain ⟨_, _, _, _, _, h⟩ := P m hm
  have a := (h i p hp).2.2.2.2
  refine ⟨?_, ?_⟩
  · rw [a]; rfl
  · show (match (psM L m)[i]? with
      | some p' => p'.2.1 + 2
      | none => 0) = _
    rw [hp]
/-- the loop over PARAMS -/
theorem lq_67 (P : PFm T N L) (tr : Bool) (hm : m < nMem L) : ∀ (r i n : Nat) (s : mjSt3), i + r = (psM L m).length → r < n → JX T N q L s → RDM T N q L s → s.1 71 4 = b2 tr → KNW q s (knF T L) → INP q s (inL L) (ipT T L) → GB N s → (s.1 58 7 = 0 → fne s (posP L m i)) → (s.1 58 7 = 0 → ∀ (j : Nat) (p : Nat × Nat × Int32), j < i → (psM L m)[j]? = some p → s.2.1 74 j = s.2.1 62 p.2.1 ∧ s.1 (q + 21) (6 * m + j) = tyI (pyT T L m j)) → ∃ s', L_67_83 (mjF (d + 4)) n 71 (nI (hmM L m)) (nI m) (nI i) (mjW0 s) = some (none, mjW0 s') ∧ GB N s' ∧ (s'.1 58 7 = 0 ↔ s.1 58 7 = 0 ∧ ∀ j, i ≤ j → j < (psM L m).length → OKp T L tr m j) ∧ oMm q m s s' ∧ s'.1 (q + 17) = s.1 (q + 17) ∧ (s'.1 58 7 = 0 → ∀ j, j < (psM L m).length → s'.1 (q + 21) (6 * m + j) = tyI (pyT T L m j))
  | 0, i, n + 1, s, e, _, X, D, ht, K, I, g, f, w => by
    have hq := X.2.2.2.2.1
    obtain ⟨d1, d2, d3, d4, d5⟩ := D
    have p6 := (P m hm).2.2.2.2.1
    have l6 : (psM L m).length ≤ 6 := p6
    refine ⟨s, ?_, g, ⟨fun h => ⟨h, fun a h1 h2 => absurd h1 (by omega)⟩, fun h => h.1⟩, offG.rf, rfl, fun h j hj => ?_⟩
    · rw [L67_S]
      unfold b_67_83
      rw [xg_71_3, X.2.2.2.2.2.1.2, ymg_6 hq, wya_20 hq (by omega), (d5 m hm).2.2.2.2.2.2, show (mdM L m).2.2.2.1.length = (psM L m).length from rfl, if_pos (nI_le (by omega) (by omega))]
    · obtain ⟨p, hp⟩ := ps_at hj
      exact (w h j p (by omega) hp).2
  | r + 1, i, n + 1, s, e, hr, X, D, ht, K, I, g, f, w => by
    have X0 := X
    have D0 := D
    have hq := X.2.2.2.2.1
    have hq' : q = 2 ∨ q = 30 := hq
    obtain ⟨d1, d2, d3, d4, d5⟩ := D
    have l6 : (psM L m).length ≤ 6 := (P m hm).2.2.2.2.1
    obtain ⟨p, hp⟩ := ps_at (L := L) (m := m) (i := i) (by omega)
    have pp := (P m hm).2.2.2.2.2 i p hp
    have pos := P.pos hm hp
    have pre : L_67_83 (mjF (d + 4)) (n + 1) 71 (nI (hmM L m)) (nI m) (nI i) (mjW0 s) = _ := L67_S _ _ _ _ _ _ _
    unfold b_67_83 at pre
    rw [xg_71_3, X.2.2.2.2.2.1.2, ymg_6 hq, wya_20 hq (by omega), (d5 m hm).2.2.2.2.2.2, show (mdM L m).2.2.2.1.length = (psM L m).length from rfl, if_neg (nI_ge (by omega) (by omega)), xg_71_0, xV_58] at pre
    by_cases h7 : s.1 58 7 = 0
    · have f0 : fne s p.1 := by rw [pos.1]; exact f h7
      rw [j_fine f0, bI_s, if_neg (by decide), xg_71_3, X.2.2.2.2.2.1.2, xV_71] at pre
      have Z := x_68 (d := d) (h := some (hmM L m)) X0 (fun c hc => by cases hc; exact (d5 m hm).2.1) f0 pp.1 tr ht K I
      rw [oI_s] at Z
      -- behind typeHere: the TYPE's row, then the NAME
      have rest : ∀ (w0 : Int32) (z : mjSt3), o58 s z → GB N z → (z.1 58 7 = 0 → fne z p.2.1) → (z.1 58 7 = 0 → w0 = tyI (pyT T L m i)) → (z.1 58 7 = 0 ↔ tyOK T L tr (some (hmM L m)) p.1) → L_67_83 (mjF (d + 4)) (n + 1) 71 (nI (hmM L m)) (nI m) (nI i) (mjW0 s) = rV (mjW0 z) (q + 14) 6 (bN (mjF (d + 4) 97 [.ref (q + 14), .int (nI m), .int (nI i), .int w0] (mjW0 z)) (fun hp10 => rV hp10 71 4 (bN (mjF (d + 4) 69 [.ref 71, .int (nI i)] hp10) (fun hp11 => L_67_83 (mjF (d + 4)) n 71 (nI (hmM L m)) (nI m) (nI i + 1) hp11)))) → ∃ s', L_67_83 (mjF (d + 4)) (n + 1) 71 (nI (hmM L m)) (nI m) (nI i) (mjW0 s) = some (none, mjW0 s') ∧ GB N s' ∧ (s'.1 58 7 = 0 ↔ s.1 58 7 = 0 ∧ ∀ j, i ≤ j → j < (psM L m).length → OKp T L tr m j) ∧ oMm q m s s' ∧ s'.1 (q + 17) = s.1 (q + 17) ∧ (s'.1 58 7 = 0 → ∀ j, j < (psM L m).length → s'.1 (q + 21) (6 * m + j) = tyI (pyT T L m j)) := by
        intro w0 z oz gz fz wz iz pr
        obtain ⟨y, hy⟩ : ∃ y, y = uI z (q + 21) (upd (z.1 (q + 21)) (6 * m + i) w0) := ⟨_, rfl⟩
        have e97 : mjF (d + 4) 97 [.ref (q + 14), .int (nI m), .int (nI i), .int w0] (mjW0 z) = some (none, mjW0 y) := by
          rw [e_97]
          unfold f_97 b_97_0
          rw [ymg_7 hq, show nI m * (6 : Int32) + nI i = nI (6 * m + i) by rw [show (6 : Int32) = nI 6 from rfl, nI_mul, nI_add, Nat.mul_comm], wys_21 hq (by omega), ← hy]
        have oy : oMm q m z y := by rw [hy]; exact offG.w (Or.inr (Or.inr ⟨rfl, by omega, by omega⟩))
        have osy : oMm q m s y := (oz.s74.Mm).tr oy
        have y58 : y.1 58 = z.1 58 := by rw [hy]; exact uI_ne _ _ _ _ (by omega)
        have Xy := X0.oJ osy.J
        have gy : GB N y := gz.cg y58
        have fy : y.1 58 7 = 0 → fne y p.2.1 := fun h => by
          have := fz (by rw [← y58]; exact h)
          exact ⟨by rw [y58]; exact this.1, by rw [y58]; exact this.2⟩
        obtain ⟨x, b1, b2', b3, b4, b5⟩ := x_69 (d := d + 2) (i := i) (c := p.2.1) Xy.1 (by omega) gy fy pp.2.2.2.1
        have osx : oMm q m s x := osy.tr b2'.Mm
        have ys2 : y.2 = s.2 := by rw [hy, uI_l, oz.l]
        have y21 : ∀ j, y.1 (q + 21) j = if j = 6 * m + i then w0 else s.1 (q + 21) j := by
          intro j
          rw [hy, uI_same, upd_g, oz.r (by omega)]
        have x21 : x.1 (q + 21) = y.1 (q + 21) := funext fun j => b2'.1 (q + 21) j (by unfold c58; omega)
        have ord : x.1 58 7 = 0 ↔ OKp T L tr m i := by
          rw [b5, y58, iz]
          have h74 : ∀ j p', j < i → (psM L m)[j]? = some p' → y.2.1 74 j = s.2.1 62 p'.2.1 := fun j p' hj hp' => by rw [ys2]; exact (w h7 j p' hj hp').1
          constructor
          · intro ⟨a, b⟩ p2 hp2
            rw [hp] at hp2
            cases hp2
            refine ⟨a, fun j p' hj hp' => ?_⟩
            have := b j hj
            rw [h74 j p' hj hp', ys2] at this
            have pj := (P m hm).2.2.2.2.2 j p' hp'
            exact fun e2 => this ((X0.2.1.2.2.1 _ _ (by omega) (by omega) (Or.inr pj.2.2.1) (Or.inr pp.2.2.1)).mpr e2)
          · intro ok
            have := ok p hp
            refine ⟨this.1, fun j hj => ?_⟩
            obtain ⟨p', hp'⟩ := ps_at (L := L) (m := m) (i := j) (by omega)
            have pj := (P m hm).2.2.2.2.2 j p' hp'
            rw [h74 j p' hj hp', ys2]
            exact fun e2 => this.2 j p' hj hp' ((X0.2.1.2.2.1 _ _ (by omega) (by omega) (Or.inr pj.2.2.1) (Or.inr pp.2.2.1)).mp e2)
        have hx62 : x.2.1 62 = s.2.1 62 := by rw [funext fun j => b2'.2.1 62 j (by omega), ys2]
        obtain ⟨s', c1, c2, c3, c4, c5, c6⟩ := lq_67 P tr hm r (i + 1) n x (by omega) (by omega) (X0.oJ osx.J) (D0.oJ hq osx.J) (by rw [osx.1 71 4 (by unfold c58; omega)]; exact ht) (by unfold KNW; rw [show x.1 (q + 11) = s.1 (q + 11) from funext fun j => osx.1 _ j (by unfold c58; omega)]; exact K) (by unfold INP; rw [show x.1 (q + 3) = s.1 (q + 3) from funext fun j => osx.1 _ j (by unfold c58; omega), show x.1 (q + 4) = s.1 (q + 4) from funext fun j => osx.1 _ j (by unfold c58; omega)]; exact I) b3 (fun h => by rw [pos.2]; exact (b4 h).1) (fun h j p' hj hp' => by
          have y7 : y.1 58 7 = 0 := (b5.mp h).1
          have z7 : z.1 58 7 = 0 := by rw [← y58]; exact y7
          rw [(b4 h).2 j, hx62, x21, y21]
          by_cases ej : j = i
          · subst ej
            rw [hp] at hp'
            cases hp'
            rw [if_pos rfl, if_pos rfl, ys2]
            exact ⟨rfl, wz z7⟩
          · rw [if_neg ej, if_neg (by omega), ys2]
            exact w h7 j p' (by omega) hp')
        refine ⟨s', ?_, c2, ?_, osx.tr c4, ?_, c6⟩
        · rw [pr, ymV hq, e97, bN_s, xV_71, b1, bN_s, nI_1]; exact c1
        · rw [c3, ord]
          constructor
          · intro ⟨a, b⟩
            refine ⟨h7, fun j h1 h2 => ?_⟩
            by_cases ej : j = i
            · rw [ej]; exact a
            · exact b j (by omega) h2
          · intro ⟨a, b⟩
            exact ⟨b i (by omega) (by omega), fun j h1 h2 => b j (by omega) h2⟩
        · rw [c5, show x.1 (q + 17) = y.1 (q + 17) from funext fun j => b2'.1 _ j (by unfold c58; omega), hy, uI_ne _ _ _ _ (by omega), oz.r (by omega)]
      by_cases ok : tyOK T L tr (some (hmM L m)) p.1
      · rw [Z.1 ok, bI_s] at pre
        refine rest _ _ (o58.go _ _) (GB.of (f0.go _) (pp.1.te).2) (fun _ => ?_) (fun _ => ?_) ⟨fun _ => ok, fun _ => (f0.go _).2⟩ pre
        · rw [← pp.2.1]; exact f0.go _
        · unfold pyT; rw [hp]
      · obtain ⟨w0, z, z1, z2, z3⟩ := Z.2 ok
        rw [z1, bI_s] at pre
        exact rest w0 z z3 (GB.ob z2) (fun h => absurd h z2.2) (fun h => absurd h z2.2) ⟨fun h => absurd h z2.2, fun h => absurd h ok⟩ pre
    · rw [j_fineB (g.b h7), bI_s, if_pos rfl] at pre
      exact ⟨s, pre, g, ⟨fun h => absurd h h7, fun h => absurd h.1 h7⟩, offG.rf, rfl, fun h => absurd h h7⟩
end MJA17
