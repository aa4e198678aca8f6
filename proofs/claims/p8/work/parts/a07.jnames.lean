/-! ===== (a): CLASSNAMES and NAMES told twice ===== -/
/-- a FAULT or none; with one the cursor is at the end -/
def GB (N : Nat) (s : mjSt3) : Prop := (∃ c, c ≤ N ∧ s.1 58 6 = nI c) ∧ (¬ s.1 58 7 = 0 → s.1 58 6 = nI N)
/-- what the reader left for the judge -/
def RDR (L : List CD) (s : mjSt3) : Prop := ∀ c, c < L.length → s.1 65 c = nI (hC L c).1 ∧ s.1 66 c = (if (hC L c).2.2.1 = 0 then -1 else nI ((hC L c).2.2.1 - 1)) ∧ ((hC L c).2.2.2.2 = 0 ∨ s.1 67 c = nI (hC L c).2.2.2.1)
/-- what the judge stands on, ahead of (a) -/
def JB (T : TT) (N q : Nat) (L : List CD) (s : mjSt3) : Prop := TH T N s ∧ KY T N s ∧ HN T N L ∧ isP q ∧ (s.2.2 71 2 = q ∧ s.2.2 71 3 = q + 14) ∧ pnm q s (nmL L) ∧ s.1 q 0 = nI L.length ∧ RDR L s
/-- all that (a) changes -/
def oJa : mjSt3 → mjSt3 → Prop := offG (fun h j => h = 58 ∧ (j = 6 ∨ j = 7 ∨ j = 8)) (fun h _ => h = 72 ∨ h = 73)
section MJA7
variable {T : TT} {d N q c t n e k : Nat} {s s' : mjSt3} {L : List CD}
theorem GB.f (g : GB N s) (h : s.1 58 7 = 0) : ∃ c, c ≤ N ∧ fne s c := by
  obtain ⟨⟨c, a, b⟩, _⟩ := g
  exact ⟨c, a, b, h⟩
theorem GB.b (g : GB N s) (h : ¬ s.1 58 7 = 0) : bdd N s := ⟨g.2 h, h⟩
theorem GB.of (f : fne s c) (hc : c ≤ N) : GB N s := ⟨⟨c, hc, f.1⟩, fun h => absurd f.2 h⟩
theorem GB.ob (b : bdd N s) : GB N s := ⟨⟨N, Nat.le_refl N, b.1⟩, fun _ => b.1⟩
theorem GB.cg (g : GB N s) (e : s'.1 58 = s.1 58) : GB N s' := by
  unfold GB
  rw [e]
  exact g
/-- refuseAt, whatever the state -/
theorem j_atG (hT : TH T N s) (g : GB N s) (ht : t ≤ N) {k : Int32} (hk : ¬ k = 0) : ∃ s', mjF (d + 1) 178 [.ref 58, .int k, .int (nI t)] (mjW0 s) = some (none, mjW0 s') ∧ bdd N s' ∧ o58 s s' := by
  by_cases h : s.1 58 7 = 0
  · obtain ⟨c, hc, f⟩ := g.f h
    exact j_at hT f hc ht hk
  · exact ⟨s, j_atB hT (g.b h), g.b h, offG.rf⟩
theorem o58.Ja (o : o58 s s') : oJa s s' := offG.mono o (fun _ _ h => h) (fun _ _ h => h.elim)
theorem JB.Ja (X : JB T N q L s) (o : oJa s s') : JB T N q L s' := by
  obtain ⟨⟨a1, a2, a3, a4⟩, b, c, e, f, g, i, j⟩ := X
  have hq : q = 2 ∨ q = 30 := e
  have r : ∀ h, ¬ h = 58 → s'.1 h = s.1 h := fun h hh => funext fun j => o.1 h j (fun x => hh x.1)
  refine ⟨⟨(o.1 58 5 (by omega)).trans a1, a2, a3, fun k hk => ?_⟩, b.lr (funext fun j => o.2.1 62 j (by omega)), c, e, ?_, ?_, ?_, ?_⟩
  · rw [r 60 (by decide), r 61 (by decide)]; exact a4 k hk
  · rw [o.2.2]; exact f
  · unfold pnm; rw [r _ (by omega)]; exact g
  · rw [r _ (by omega)]; exact i
  · unfold RDR; rw [r 65 (by decide), r 66 (by decide), r 67 (by decide)]; exact j
theorem uL_off {h j : Nat} {v : Int64} (hh : h = 72 ∨ h = 73) : oJa s (uL s h (vp_updL (s.2.1 h) j v)) := offG.wl hh
theorem L57_S (R : mjR) (n a : Nat) (b e f : Int32) (hp : mjH) : L_57_2 R (n + 1) a b e f hp = b_57_2 R (L_57_2 R n) a b e f hp := rfl
/-- judgeNamesOf -/
theorem lq_57 (hc : c < L.length) : ∀ (r i m : Nat) (s : mjSt3), i + r = nmL L c → r < m → JB T N q L s → GB N s → (∀ j, j < i → s.2.1 73 (5 * c + j) = s.2.1 62 ((hC L c).1 + 2 + 2 * j)) → ∃ s', L_57_2 (mjF (d + 1)) m 71 (nI c) (nI (hC L c).1) (nI i) (mjW0 s) = some (none, mjW0 s') ∧ GB N s' ∧ (s'.1 58 7 = 0 ↔ s.1 58 7 = 0 ∧ ∀ a, i ≤ a → a < nmL L c → ∀ b, b < a → ¬ kyT T ((hC L c).1 + 2 + 2 * b) = kyT T ((hC L c).1 + 2 + 2 * a)) ∧ oJa s s' ∧ s'.2.1 72 = s.2.1 72 ∧ (∀ j, ¬ (5 * c ≤ j ∧ j < 5 * c + nmL L c) → s'.2.1 73 j = s.2.1 73 j) ∧ ∀ j, j < nmL L c → s'.2.1 73 (5 * c + j) = s.2.1 62 ((hC L c).1 + 2 + 2 * j)
  | 0, i, m + 1, s, e, _, X, g, w => by
    obtain ⟨x1, x2, x3, x4, x5, x6, x7, x8⟩ := X
    have h16 := x3.1
    have n5 := vK.n5 x3 hc
    refine ⟨s, ?_, g, ⟨fun h => ⟨h, fun a h1 h2 => absurd h1 (by omega)⟩, fun h => h.1⟩, offG.rf, rfl, fun _ _ => rfl, fun j hj => w j (by omega)⟩
    rw [L57_S]
    unfold b_57_2
    rw [xg_71_2, x5.1, yg_1 x4, wya_1 x4 (by omega), (x6 c (by omega)).1, if_pos (nI_le (by omega) (by omega))]
  | r + 1, i, m + 1, s, e, hr, X, g, w => by
    have X0 := X
    obtain ⟨x1, x2, x3, x4, x5, x6, x7, x8⟩ := X
    have h16 := x3.1
    have n5 := vK.n5 x3 hc
    have hi := (x3.2 c hc).2.2.2.2 i (by show i < nmL L c; omega)
    obtain ⟨⟨cu, hcu, fcu⟩, _⟩ := id g
    obtain ⟨z, hz⟩ : ∃ z, z = uL s 73 (vp_updL (s.2.1 73) (5 * c + i) (s.2.1 62 ((hC L c).1 + 2 + 2 * i))) := ⟨_, rfl⟩
    have oz : oJa s z := by rw [hz]; exact uL_off (Or.inr rfl)
    have Xz := X0.Ja oz
    have z1 : z.1 = s.1 := by rw [hz]; rfl
    have z62 : z.2.1 62 = s.2.1 62 := by rw [hz]; exact uL_ne _ _ _ _ (by decide)
    have z72 : z.2.1 72 = s.2.1 72 := by rw [hz]; exact uL_ne _ _ _ _ (by decide)
    have z73 : ∀ j, z.2.1 73 j = if j = 5 * c + i then s.2.1 62 ((hC L c).1 + 2 + 2 * i) else s.2.1 73 j := by
      intro j
      rw [hz, uL_same]
      rfl
    have gz : GB N z := g.cg (by rw [z1])
    have wz : ∀ j, j < i + 1 → z.2.1 73 (5 * c + j) = z.2.1 62 ((hC L c).1 + 2 + 2 * j) := by
      intro j hj
      rw [z73, z62]
      by_cases ej : j = i
      · rw [ej, if_pos rfl]
      · rw [if_neg (by omega), w j (by omega)]
    have xz := Xz
    obtain ⟨y1, y2, y3, y4, y5, y6, y7, y8⟩ := xz
    have ki : fnd (fun j => decide (z.2.1 73 (5 * c + j) = z.2.1 62 ((hC L c).1 + 2 + 2 * i))) (nmL L c) = fnd (fun j => decide (kyT T ((hC L c).1 + 2 + 2 * j) = kyT T ((hC L c).1 + 2 + 2 * i))) (i + 1) := by
      have hii : (fun j => decide (z.2.1 73 (5 * c + j) = z.2.1 62 ((hC L c).1 + 2 + 2 * i))) i = true := by simpa using wz i (by omega)
      have eqk : ∀ j, j < i + 1 → (fun j => decide (z.2.1 73 (5 * c + j) = z.2.1 62 ((hC L c).1 + 2 + 2 * i))) j = (fun j => decide (kyT T ((hC L c).1 + 2 + 2 * j) = kyT T ((hC L c).1 + 2 + 2 * i))) j := by
        intro j hj
        have a := (x3.2 c hc).2.2.2.2 j (by show j < nmL L c; omega)
        dsimp only
        rw [wz j hj]
        exact decide_eq_decide.mpr (y2.2.2.1 _ _ a.2 hi.2 (Or.inr a.1) (Or.inr hi.1))
      rw [← fnd_cg eqk]
      cases hf : fnd (fun j => decide (z.2.1 73 (5 * c + j) = z.2.1 62 ((hC L c).1 + 2 + 2 * i))) (i + 1) with
      | none => exact absurd ((fnd_none.mp hf i (by omega)).symm.trans hii) (by decide)
      | some a =>
        obtain ⟨a1, a2, a3⟩ := fnd_some.mp hf
        exact fnd_some.mpr ⟨by omega, a2, a3⟩
    have pre : L_57_2 (mjF (d + 1)) (m + 1) 71 (nI c) (nI (hC L c).1) (nI i) (mjW0 s) = if nI i ≤ oI (fnd (fun j => decide (kyT T ((hC L c).1 + 2 + 2 * j) = kyT T ((hC L c).1 + 2 + 2 * i))) (i + 1)) then L_57_2 (mjF (d + 1)) m 71 (nI c) (nI (hC L c).1) (nI (i + 1)) (mjW0 z) else bN (mjF (d + 1) 178 [.ref 58, .int 4, .int (nI ((hC L c).1 + 2 + 2 * i))] (mjW0 z)) (fun hp => L_57_2 (mjF (d + 1)) m 71 (nI c) (nI (hC L c).1) (nI (i + 1)) hp) := by
      rw [L57_S]
      unfold b_57_2 b_57_71
      rw [xg_71_2, x5.1, yg_1 x4, wya_1 x4 (by omega), (x6 c (by omega)).1, if_neg (nI_ge (by omega) (by omega)), xg_71_6, xg_71_0, xV_58, tI, j_key x1 fcu hcu hi.2, bL_s, show nI c * (5 : Int32) + nI i = nI (5 * c + i) by rw [show (5 : Int32) = nI 5 from rfl, nI_mul, nI_add, Nat.mul_comm], ws_73 (by omega), ← hz, xg_71_0, xV_58, j_key (c := cu) y1 (by rw [z1]; exact fcu) hcu hi.2, bL_s, xV_71, x_58 (n := nmL L c) y4 y5.1 (by omega) (y6 c (by omega)).1 (y6 c (by omega)).2, bI_s, ki, nI_1, xg_71_0, xV_58]
    have sub : ∀ z', oJa z z' → TH T N z' → JB T N q L z' → GB N z' → z'.2.1 = z.2.1 → ∃ s', L_57_2 (mjF (d + 1)) m 71 (nI c) (nI (hC L c).1) (nI (i + 1)) (mjW0 z') = some (none, mjW0 s') ∧ GB N s' ∧ (s'.1 58 7 = 0 ↔ z'.1 58 7 = 0 ∧ ∀ a, i + 1 ≤ a → a < nmL L c → ∀ b, b < a → ¬ kyT T ((hC L c).1 + 2 + 2 * b) = kyT T ((hC L c).1 + 2 + 2 * a)) ∧ oJa s s' ∧ s'.2.1 72 = s.2.1 72 ∧ (∀ j, ¬ (5 * c ≤ j ∧ j < 5 * c + nmL L c) → s'.2.1 73 j = s.2.1 73 j) ∧ ∀ j, j < nmL L c → s'.2.1 73 (5 * c + j) = s.2.1 62 ((hC L c).1 + 2 + 2 * j) := by
      intro z' oz' _ Xz' gz' e2
      obtain ⟨s', a1, a2, a3, a4, a5, a6, a7⟩ := lq_57 hc r (i + 1) m z' (by omega) (by omega) Xz' gz' (fun j hj => by rw [e2]; exact wz j hj)
      refine ⟨s', a1, a2, a3, oz.tr (oz'.tr a4), by rw [a5, e2, z72], fun j hj => ?_, fun j hj => ?_⟩
      · rw [a6 j hj, e2, z73, if_neg (by omega)]
      · rw [a7 j hj, e2, z62]
    by_cases P : ∀ b, b < i → ¬ kyT T ((hC L c).1 + 2 + 2 * b) = kyT T ((hC L c).1 + 2 + 2 * i)
    · have ef : fnd (fun j => decide (kyT T ((hC L c).1 + 2 + 2 * j) = kyT T ((hC L c).1 + 2 + 2 * i))) (i + 1) = some i := fnd_some.mpr ⟨by omega, by simp, fun j hj => by simpa using P j hj⟩
      rw [ef, oI_s, if_pos (Int32.le_refl _)] at pre
      obtain ⟨s', a1, a2, a3, a4⟩ := sub z offG.rf y1 Xz gz rfl
      refine ⟨s', pre.trans a1, a2, ?_, a4⟩
      rw [a3, z1]
      constructor
      · intro ⟨u, v⟩
        refine ⟨u, fun a h1 h2 => ?_⟩
        by_cases ea : a = i
        · rw [ea]; exact P
        · exact v a (by omega) h2
      · intro ⟨u, v⟩
        exact ⟨u, fun a h1 h2 => v a (by omega) h2⟩
    · have ⟨b, hb⟩ : ∃ b, b < i ∧ kyT T ((hC L c).1 + 2 + 2 * b) = kyT T ((hC L c).1 + 2 + 2 * i) := by
        apply Classical.byContradiction
        intro no
        exact P (fun b h1 h2 => no ⟨b, h1, h2⟩)
      cases hf : fnd (fun j => decide (kyT T ((hC L c).1 + 2 + 2 * j) = kyT T ((hC L c).1 + 2 + 2 * i))) (i + 1) with
      | none => exact absurd (fnd_none.mp hf b (by omega)) (by simp [hb.2])
      | some a =>
        obtain ⟨a1, a2, a3⟩ := fnd_some.mp hf
        have ai : a < i := by
          apply Classical.byContradiction
          intro no
          exact absurd (a3 b (by omega)) (by simp [hb.2])
        rw [hf, oI_s, if_neg (nI_ge ai (by omega))] at pre
        obtain ⟨z', b1, b2, b3⟩ := j_atG (d := d) (k := 4) y1 gz hi.2 (by decide)
        obtain ⟨s', c1, c2, c3, c4⟩ := sub z' b3.Ja (y1.o58 b3) (Xz.Ja b3.Ja) (GB.ob b2) (by rw [b3.l])
        refine ⟨s', by rw [pre, b1, bN_s, c1], c2, ?_, c4⟩
        rw [c3]
        exact ⟨fun h => absurd h.1 b2.2, fun h => absurd (h.2 i (by omega) (by omega) b hb.1) (by simp [hb.2])⟩
end MJA7
