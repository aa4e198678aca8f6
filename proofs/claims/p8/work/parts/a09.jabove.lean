/-! ===== (b): the KINDS behind is ===== -/
def c58 (h j : Nat) : Prop := h = 58 ∧ (j = 6 ∨ j = 7 ∨ j = 8)
/-- all that the judge changes behind (a) -/
def oJ (q : Nat) : mjSt3 → mjSt3 → Prop := offG (fun h j => c58 h j ∨ h = q + 4 ∨ h = q + 5 ∨ h = q + 8 ∨ h = q + 11 ∨ h = q + 12 ∨ h = q + 17 ∨ h = q + 19 ∨ h = q + 21) (fun h _ => h = 74 ∨ h = q + 13)
def oRow (h0 : Nat) : mjSt3 → mjSt3 → Prop := offG (fun h j => c58 h j ∨ h = h0) (fun _ _ => False)
/-- the KIND behind is -/
def abT (T : TT) (L : List CD) (c : Nat) : Option Nat := if (hC L c).2.2.1 = 0 then none else kdT T L (some c) true (hC L c).2.2.1
/-- (b) finds nothing at CLASS c's is (but a CLASS above itself) -/
def OKb (T : TT) (L : List CD) (c : Nat) : Prop := ¬ (hC L c).2.2.1 = 0 → ∃ k, kdT T L (some c) true (hC L c).2.2.1 = some k ∧ oK k 0 = 0
/-- KINDS stand behind is, NAMES in INS -/
def PFi (T : TT) (N : Nat) (L : List CD) : Prop := ∀ c, c < L.length → (¬ (hC L c).2.2.1 = 0 → KDk T N (hC L c).2.2.1) ∧ (hC L c).2.2.2.2 ≤ 8 ∧ ∀ i, i < (hC L c).2.2.2.2 → (T ((hC L c).2.2.2.1 + 4 * i)).1 = 3 ∧ (T ((hC L c).2.2.2.1 + 4 * i + 2)).1 = 3 ∧ (hC L c).2.2.2.1 + 4 * i + 2 ≤ N
section MJA9
variable {T : TT} {d N q c t n e k h0 : Nat} {s s' : mjSt3} {L : List CD}
theorem o58.row (o : o58 s s') : oRow h0 s s' := offG.mono o (fun _ _ h => Or.inl h) (fun _ _ h => h.elim)
theorem oRow.r (o : oRow h0 s s') {h : Nat} (h1 : ¬ h = 58) (h2 : ¬ h = h0) : s'.1 h = s.1 h := funext fun j => o.1 h j (fun e => e.elim (fun e => h1 e.1) h2)
theorem oRow.l (o : oRow h0 s s') : s'.2 = s.2 := by
  have a : s'.2.1 = s.2.1 := funext fun h => funext fun j => o.2.1 h j (fun e => e)
  exact Prod.ext a o.2.2
theorem oRow.w {v : Int32} {j : Nat} : oRow h0 s (uI s h0 (upd (s.1 h0) j v)) := offG.w (Or.inr rfl)
theorem JX.oJ (X : JX T N q L s) (o : oJ q s s') : JX T N q L s' := by
  obtain ⟨⟨a1, a2, a3, a4⟩, b, c, e, f, g, i, j⟩ := X
  have hq : q = 2 ∨ q = 30 := f
  have r : ∀ h, h = 60 ∨ h = 61 ∨ h = q ∨ h = q + 1 → s'.1 h = s.1 h := fun h hh => funext fun j => o.1 h j (by unfold c58; omega)
  have l : ∀ h, h = 62 ∨ h = 72 ∨ h = 73 → s'.2.1 h = s.2.1 h := fun h hh => funext fun j => o.2.1 h j (by omega)
  refine ⟨⟨(o.1 58 5 (by unfold c58; omega)).trans a1, a2, a3, fun k hk => ?_⟩, b.lr (l 62 (by omega)), c, ?_, f, ?_, ?_, ?_⟩
  · rw [r 60 (by omega), r 61 (by omega)]; exact a4 k hk
  · unfold CKs; rw [l 72 (by omega), l 73 (by omega), l 62 (by omega)]; exact e
  · rw [o.2.2]; exact g
  · unfold pnm; rw [r _ (by omega)]; exact i
  · rw [r _ (by omega)]; exact j
theorem RDR.oJ (X : RDR L s) (hq : isP q) (o : oJ q s s') : RDR L s' := by
  have hq : q = 2 ∨ q = 30 := hq
  have r : ∀ h, h = 65 ∨ h = 66 ∨ h = 67 → s'.1 h = s.1 h := fun h hh => funext fun j => o.1 h j (by unfold c58; omega)
  unfold RDR
  rw [r 65 (by omega), r 66 (by omega), r 67 (by omega)]
  exact X
theorem oRow.J (o : oRow h0 s s') (h : h0 = q + 4 ∨ h0 = q + 5 ∨ h0 = q + 8 ∨ h0 = q + 11 ∨ h0 = q + 12 ∨ h0 = q + 17 ∨ h0 = q + 19 ∨ h0 = q + 21) : oJ q s s' := offG.mono o (fun x y z => z.elim Or.inl (fun z => Or.inr (by omega))) (fun _ _ z => z.elim)
theorem GB.row (g : GB N s) (e : ∀ j, s'.1 58 j = s.1 58 j) : GB N s' := g.cg (funext e)
theorem L59_S (R : mjR) (n a : Nat) (b : Int32) (hp : mjH) : L_59_2 R (n + 1) a b hp = b_59_2 R (L_59_2 R n) a b hp := rfl
theorem lq_59 (P : PFi T N L) (tr : Bool) : ∀ (r c m : Nat) (s : mjSt3), c + r = L.length → r < m → JX T N q L s → s.1 71 4 = b2 tr → RDR L s → GB N s → (∀ j, j < c → s.1 (q + 5) j = oI (abT T L j)) → (∀ j, c ≤ j → j < 16 → s.1 (q + 5) j = -1) → ∃ s', L_59_2 (mjF (d + 3)) m 71 (nI c) (mjW0 s) = some (none, mjW0 s') ∧ GB N s' ∧ (s'.1 58 7 = 0 ↔ s.1 58 7 = 0 ∧ ∀ j, c ≤ j → j < L.length → OKb T L j) ∧ oRow (q + 5) s s' ∧ (s'.1 58 7 = 0 → ∀ j, j < 16 → s'.1 (q + 5) j = if j < L.length then oI (abT T L j) else -1)
  | 0, c, m + 1, s, e, _, X, ht, D, g, w, w' => by
    obtain ⟨x1, x2, x3, x4, x5, x6, x7, x8⟩ := X
    have h16 := x3.1
    refine ⟨s, ?_, g, ⟨fun h => ⟨h, fun a h1 h2 => absurd h1 (by omega)⟩, fun h => h.1⟩, offG.rf, fun _ j hj => ?_⟩
    · rw [L59_S]
      unfold b_59_2
      rw [xg_71_2, x6.1, yg_0 x5, x8, if_pos (nI_le (by omega) (by omega))]
    · by_cases hl : j < L.length
      · rw [if_pos hl]; exact w j (by omega)
      · rw [if_neg hl]; exact w' j (by omega) hj
  | r + 1, c, m + 1, s, e, hr, X, ht, D, g, w, w' => by
    have X0 := X
    obtain ⟨x1, x2, x3, x4, x5, x6, x7, x8⟩ := X
    have h16 := x3.1
    have hN := x1.2.1
    have hc : c < L.length := by omega
    have hq : q = 2 ∨ q = 30 := x5
    by_cases h7 : s.1 58 7 = 0
    · obtain ⟨cu, hcu, f⟩ := g.f h7
      have pre : L_59_2 (mjF (d + 3)) (m + 1) 71 (nI c) (mjW0 s) = _ := L59_S _ _ _ _ _
      unfold b_59_2 b_59_86 at pre
      rw [xg_71_2, x6.1, yg_0 x5, x8, if_neg (nI_ge (by omega) (by omega)), xg_71_0, xV_58, j_fine f, bI_s, if_neg (by decide), xg_71_1, xg_64_4, wa_66 (by omega), (D c hc).2.1] at pre
      by_cases hz : (hC L c).2.2.1 = 0
      · rw [if_pos hz, if_pos rfl, nI_1] at pre
        have ea : abT T L c = none := by unfold abT; rw [if_pos hz]
        obtain ⟨s', a1, a2, a3, a4, a5⟩ := lq_59 P tr r (c + 1) m s (by omega) (by omega) X0 ht D g (fun j hj => by
          by_cases ej : j = c
          · rw [ej, ea, w' c (by omega) (by omega)]; rfl
          · exact w j (by omega)) (fun j h1 h2 => w' j (by omega) h2)
        refine ⟨s', pre.trans a1, a2, ?_, a4, a5⟩
        rw [a3]
        constructor
        · intro ⟨u, v⟩
          refine ⟨u, fun j h1 h2 => ?_⟩
          by_cases ej : j = c
          · rw [ej]; exact fun h => absurd hz h
          · exact v j (by omega) h2
        · intro ⟨u, v⟩
          exact ⟨u, fun j h1 h2 => v j (by omega) h2⟩
      · have KD := (P c hc).1 hz
        have kl := KD.2.2.2.1
        have hi1 : nI ((hC L c).2.2.1 - 1) + 1 = nI (hC L c).2.2.1 := by rw [nI_1, show (hC L c).2.2.1 - 1 + 1 = (hC L c).2.2.1 by omega]
        rw [if_neg hz, if_neg (nI_m1 (by omega)), xg_71_0, xV_58, hi1, j_go x1 f hcu (by omega), bN_s, xV_71] at pre
        obtain ⟨z, hzz⟩ : ∃ z, z = tkGo s (hC L c).2.2.1 := ⟨_, rfl⟩
        have oz : o58 s z := by rw [hzz]; exact o58.go _ _
        have fz : fne z (hC L c).2.2.1 := by rw [hzz]; exact f.go _
        have Xz := X0.o58 oz
        rw [← hzz] at pre
        have K := x_60 (d := d) (iN := fun _ => 0) (ip := fun _ _ => (0, 0)) (kn := fun _ _ _ => true) (h := some c) Xz (fun c' h => by cases h; exact hc) fz KD true tr (by rw [oz.r (by decide)]; exact ht) (Or.inl rfl)
        -- the rest of the loop
        have rest : ∀ (z2 : mjSt3), oRow (q + 5) s z2 → GB N z2 → (∀ j, ¬ j = c → z2.1 (q + 5) j = s.1 (q + 5) j) → (z2.1 58 7 = 0 → z2.1 (q + 5) c = oI (abT T L c)) → (z2.1 58 7 = 0 ↔ OKb T L c) → ∃ s', L_59_2 (mjF (d + 3)) m 71 (nI (c + 1)) (mjW0 z2) = some (none, mjW0 s') ∧ GB N s' ∧ (s'.1 58 7 = 0 ↔ s.1 58 7 = 0 ∧ ∀ j, c ≤ j → j < L.length → OKb T L j) ∧ oRow (q + 5) s s' ∧ (s'.1 58 7 = 0 → ∀ j, j < 16 → s'.1 (q + 5) j = if j < L.length then oI (abT T L j) else -1) := by
          intro z2 o2 g2 r2 v2 i2
          have X2 := X0.oJ (o2.J (q := q) (by omega))
          by_cases z7 : z2.1 58 7 = 0
          · obtain ⟨s', a1, a2, a3, a4, a5⟩ := lq_59 P tr r (c + 1) m z2 (by omega) (by omega) X2 (by rw [o2.r (by decide) (by omega)]; exact ht) (D.oJ x5 (o2.J (by omega))) g2 (fun j hj => by
              by_cases ej : j = c
              · rw [ej]; exact v2 z7
              · rw [r2 j ej]; exact w j (by omega)) (fun j h1 h2 => by rw [r2 j (by omega)]; exact w' j (by omega) h2)
            refine ⟨s', a1, a2, ?_, o2.tr a4, a5⟩
            rw [a3]
            constructor
            · intro ⟨u, v⟩
              refine ⟨h7, fun j h1 h2 => ?_⟩
              by_cases ej : j = c
              · rw [ej]; exact i2.mp z7
              · exact v j (by omega) h2
            · intro ⟨u, v⟩
              exact ⟨z7, fun j h1 h2 => v j (by omega) h2⟩
          · refine ⟨z2, ?_, g2, ⟨fun h => absurd h z7, fun h => absurd (i2.mpr (h.2 c (by omega) hc)) z7⟩, o2, fun h => absurd h z7⟩
            obtain ⟨m', rfl⟩ : ∃ m', m = m' + 1 := ⟨m - 1, by omega⟩
            rw [L59_S]
            unfold b_59_2
            rw [xg_71_2, X2.2.2.2.2.2.1.1, yg_0 x5, X2.2.2.2.2.2.2.2]
            by_cases hl : L.length ≤ c + 1
            · rw [if_pos (nI_le hl (by omega))]
            · rw [if_neg (nI_ge (by omega) (by omega)), xg_71_0, xV_58, j_fineB (g2.b z7), bI_s, if_pos rfl]
        have wr : ∀ (z1 : mjSt3) (v : Int32), o58 s z1 → oRow (q + 5) s (uI z1 (q + 5) (upd (z1.1 (q + 5)) c v)) ∧ (∀ j, ¬ j = c → (uI z1 (q + 5) (upd (z1.1 (q + 5)) c v)).1 (q + 5) j = s.1 (q + 5) j) ∧ (uI z1 (q + 5) (upd (z1.1 (q + 5)) c v)).1 (q + 5) c = v ∧ (uI z1 (q + 5) (upd (z1.1 (q + 5)) c v)).1 58 = z1.1 58 := by
          intro z1 v o1
          refine ⟨o1.row.tr oRow.w, fun j hj => ?_, ?_, uI_ne _ _ _ _ (by omega)⟩
          · rw [uI_same, upd_g, if_neg hj, o1.r (by omega)]
          · rw [uI_same, upd_g, if_pos rfl]
        cases hk : kdT T L (some c) true (hC L c).2.2.1 with
        | none =>
          rw [hk] at K
          obtain ⟨z1, k1, k2, k3⟩ := K
          have o1 : o58 s z1 := oz.tr k3
          obtain ⟨q1, q2, q3, q4⟩ := wr z1 (nI 0) o1
          rw [oI_s] at k1
          rw [show b2 true = 1 from rfl] at k1
          rw [k1, bI_s, xg_71_2, o1.l, x6.1, yg_5 x5, wys_5 x5 (by omega), show (0 : Int32) = nI 0 from rfl, x_106 (by omega) (by omega), bI_s, if_pos (show nI (oK 0 0) = nI 0 by decide), nI_1] at pre
          obtain ⟨s', a⟩ := rest _ q1 ((GB.ob k2).cg q4) q2 (fun h => absurd (by rw [← q4]; exact h) k2.2) ⟨fun h => absurd (by rw [← q4]; exact h) k2.2, fun h => by obtain ⟨kk, u, v⟩ := h hz; rw [hk] at u; cases u⟩
          exact ⟨s', pre.trans a.1, a.2⟩
        | some kk =>
          rw [hk] at K
          dsimp only at K
          rw [Bool.true_or, Bool.true_or, if_pos rfl] at K
          obtain ⟨_, _, _, _, _, _, v⟩ := kd_v x3 (fun c' h => by cases h; exact hc) hk
          have vl := v.lt x3
          obtain ⟨z1, hz1⟩ : ∃ z1, z1 = tkGo z ((hC L c).2.2.1 + 2 + 2 * cntO T 6 ((hC L c).2.2.1 + 2)) := ⟨_, rfl⟩
          have o1 : o58 s z1 := by rw [hz1]; exact oz.tr (o58.go _ _)
          have f1 : fne z1 ((hC L c).2.2.1 + 2 + 2 * cntO T 6 ((hC L c).2.2.1 + 2)) := by rw [hz1]; exact fz.go _
          rw [← hz1] at K
          obtain ⟨q1, q2, q3, q4⟩ := wr z1 (nI kk) o1
          rw [oI_s] at K
          rw [show b2 true = 1 from rfl] at K
          rw [K, bI_s, xg_71_2, o1.l, x6.1, yg_5 x5, wys_5 x5 (by omega), show (0 : Int32) = nI 0 from rfl, x_106 (by omega) (by omega), bI_s, nI_1] at pre
          have ea : abT T L c = some kk := by unfold abT; rw [if_neg hz, hk]
          have g1 : GB N (uI z1 (q + 5) (upd (z1.1 (q + 5)) c (nI kk))) := (GB.of f1 (by omega)).cg q4
          have o8 := oK_lt kk 0
          by_cases g0 : oK kk 0 = 0
          · rw [if_pos (show nI (oK kk 0) = nI 0 by rw [g0])] at pre
            obtain ⟨s', a⟩ := rest _ q1 g1 q2 (fun _ => by rw [q3, ea]; rfl) ⟨fun _ _ => ⟨kk, hk, g0⟩, fun _ => by rw [q4]; exact f1.2⟩
            exact ⟨s', pre.trans a.1, a.2⟩
          · rw [if_neg (show ¬ nI (oK kk 0) = nI 0 from fun x => g0 ((nI_eq (by omega) (by omega)).mp x)), xg_71_0, xV_58] at pre
            obtain ⟨z3, b1, b2, b3⟩ := j_atG (d := d + 2) (k := 11) (t := (hC L c).2.2.1 - 1) (X0.oJ (q1.J (q := q) (by omega))).1 g1 (by omega) (by decide)
            rw [b1, bN_s] at pre
            obtain ⟨s', a⟩ := rest z3 (q1.tr b3.row) (GB.ob b2) (fun j hj => by rw [b3.r (by omega)]; exact q2 j hj) (fun h => absurd h b2.2) ⟨fun h => absurd h b2.2, fun h => by obtain ⟨k2, u, v⟩ := h hz; rw [hk] at u; cases u; exact absurd v g0⟩
            exact ⟨s', pre.trans a.1, a.2⟩
    · refine ⟨s, ?_, g, ⟨fun h => absurd h h7, fun h => absurd h.1 h7⟩, offG.rf, fun h => absurd h h7⟩
      rw [L59_S]
      unfold b_59_2
      rw [xg_71_2, x6.1, yg_0 x5, x8, if_neg (nI_ge (by omega) (by omega)), xg_71_0, xV_58, j_fineB (g.b h7), bI_s, if_pos rfl]
/-- judgeAboves -/
theorem x_59 (P : PFi T N L) {tr : Bool} (X : JX T N q L s) (ht : s.1 71 4 = b2 tr) (D : RDR L s) (g : GB N s) (w : ∀ j, j < 16 → s.1 (q + 5) j = -1) : ∃ s', mjF (d + 4) 59 [.ref 71] (mjW0 s) = some (none, mjW0 s') ∧ GB N s' ∧ (s'.1 58 7 = 0 ↔ s.1 58 7 = 0 ∧ ∀ j, j < L.length → OKb T L j) ∧ oRow (q + 5) s s' ∧ (s'.1 58 7 = 0 → ∀ j, j < 16 → s'.1 (q + 5) j = if j < L.length then oI (abT T L j) else -1) := by
  obtain ⟨s', a1, a2, a3, a4, a5⟩ := lq_59 (d := d) P tr L.length 0 mjN s (by omega) (by have := X.2.2.1.1; have := mjN_v; omega) X ht D g (fun j hj => absurd hj (by omega)) (fun j _ hj => w j hj)
  refine ⟨s', ?_, a2, ?_, a4, a5⟩
  · rw [e_59]
    unfold f_59 b_59_0
    exact a1
  · rw [a3]
    exact ⟨fun ⟨u, v⟩ => ⟨u, fun j hj => v j (by omega) hj⟩, fun ⟨u, v⟩ => ⟨u, fun j _ hj => v j hj⟩⟩
end MJA9
