/-! ===== (a), all CLASSES ===== -/
/-- (a) finds nothing in CLASS c -/
def OKa (T : TT) (L : List CD) (c : Nat) : Prop := (∀ b, b < c → ¬ kyT T (hC L b).1 = kyT T (hC L c).1) ∧ ∀ a, a < nmL L c → ∀ b, b < a → ¬ kyT T ((hC L c).1 + 2 + 2 * b) = kyT T ((hC L c).1 + 2 + 2 * a)
def CKu (L : List CD) (n : Nat) (s : mjSt3) : Prop := ∀ c, c < n → s.2.1 72 c = s.2.1 62 (hC L c).1 ∧ ∀ i, i < (hC L c).2.1 → s.2.1 73 (5 * c + i) = s.2.1 62 ((hC L c).1 + 2 + 2 * i)
section MJA8
variable {T : TT} {d N q c t n e k : Nat} {s s' : mjSt3} {L : List CD}
theorem L55_S (R : mjR) (n a : Nat) (b : Int32) (hp : mjH) : L_55_2 R (n + 1) a b hp = b_55_2 R (L_55_2 R n) a b hp := rfl
theorem lq_55 : ∀ (r c m : Nat) (s : mjSt3), c + r = L.length → r < m → JB T N q L s → GB N s → CKu L c s → ∃ s', L_55_2 (mjF (d + 2)) m 71 (nI c) (mjW0 s) = some (none, mjW0 s') ∧ GB N s' ∧ (s'.1 58 7 = 0 ↔ s.1 58 7 = 0 ∧ ∀ j, c ≤ j → j < L.length → OKa T L j) ∧ oJa s s' ∧ (s'.1 58 7 = 0 → CKu L L.length s')
  | 0, c, m + 1, s, e, _, X, g, w => by
    obtain ⟨x1, x2, x3, x4, x5, x6, x7, x8⟩ := X
    have h16 := x3.1
    refine ⟨s, ?_, g, ⟨fun h => ⟨h, fun a h1 h2 => absurd h1 (by omega)⟩, fun h => h.1⟩, offG.rf, fun _ => ?_⟩
    · rw [L55_S]
      unfold b_55_2
      rw [xg_71_2, x5.1, yg_0 x4, x7, if_pos (nI_le (by omega) (by omega))]
    · rw [← show c = L.length by omega]; exact w
  | r + 1, c, m + 1, s, e, hr, X, g, w => by
    have X0 := X
    obtain ⟨x1, x2, x3, x4, x5, x6, x7, x8⟩ := X
    have h16 := x3.1
    have hc : c < L.length := by omega
    have hcc := x3.2 c hc
    by_cases h7 : s.1 58 7 = 0
    · obtain ⟨cu, hcu, f⟩ := g.f h7
      obtain ⟨z, hz⟩ : ∃ z, z = uL s 72 (vp_updL (s.2.1 72) c (s.2.1 62 (hC L c).1)) := ⟨_, rfl⟩
      have oz : oJa s z := by rw [hz]; exact uL_off (Or.inl rfl)
      have Xz := X0.Ja oz
      have z1 : z.1 = s.1 := by rw [hz]; rfl
      have z62 : z.2.1 62 = s.2.1 62 := by rw [hz]; exact uL_ne _ _ _ _ (by decide)
      have z73 : z.2.1 73 = s.2.1 73 := by rw [hz]; exact uL_ne _ _ _ _ (by decide)
      have z72 : ∀ j, z.2.1 72 j = if j = c then s.2.1 62 (hC L c).1 else s.2.1 72 j := by
        intro j
        rw [hz, uL_same]
        rfl
      have gz : GB N z := g.cg (by rw [z1])
      have wz : ∀ j, j < c + 1 → z.2.1 72 j = z.2.1 62 (hC L j).1 := by
        intro j hj
        rw [z72, z62]
        by_cases ej : j = c
        · rw [ej, if_pos rfl]
        · rw [if_neg ej, (w j (by omega)).1]
      obtain ⟨y1, y2, y3, y4, y5, y6, y7, y8⟩ := id Xz
      have ki : fnd (fun j => decide (z.2.1 72 j = z.2.1 72 c)) L.length = fnd (fun j => decide (kyT T (hC L j).1 = kyT T (hC L c).1)) (c + 1) := by
        have hii : (fun j => decide (z.2.1 72 j = z.2.1 72 c)) c = true := by simp
        have eqk : ∀ j, j < c + 1 → (fun j => decide (z.2.1 72 j = z.2.1 72 c)) j = (fun j => decide (kyT T (hC L j).1 = kyT T (hC L c).1)) j := by
          intro j hj
          have a := (x3.2 j (by omega))
          dsimp only
          rw [wz j hj, wz c (by omega)]
          exact decide_eq_decide.mpr (y2.2.2.1 _ _ a.2.1 hcc.2.1 (Or.inl a.1) (Or.inl hcc.1))
        rw [← fnd_cg eqk]
        cases hf : fnd (fun j => decide (z.2.1 72 j = z.2.1 72 c)) (c + 1) with
        | none => exact absurd ((fnd_none.mp hf c (by omega)).symm.trans hii) (by decide)
        | some a =>
          obtain ⟨a1, a2, a3⟩ := fnd_some.mp hf
          exact fnd_some.mpr ⟨by omega, a2, a3⟩
      have pre : L_55_2 (mjF (d + 2)) (m + 1) 71 (nI c) (mjW0 s) = if nI c ≤ oI (fnd (fun j => decide (kyT T (hC L j).1 = kyT T (hC L c).1)) (c + 1)) then bN (mjF (d + 2) 57 [.ref 71, .int (nI c), .int (nI (hC L c).1)] (mjW0 z)) (fun hp => L_55_2 (mjF (d + 2)) m 71 (nI (c + 1)) hp) else bN (mjF (d + 2) 178 [.ref 58, .int 4, .int (nI (hC L c).1)] (mjW0 z)) (fun hp => rV hp 71 4 (bN (mjF (d + 2) 57 [.ref 71, .int (nI c), .int (nI (hC L c).1)] hp) (fun hp => L_55_2 (mjF (d + 2)) m 71 (nI (c + 1)) hp))) := by
        rw [L55_S]
        unfold b_55_2 b_55_70
        rw [xg_71_2, x5.1, yg_0 x4, x7, if_neg (nI_ge (by omega) (by omega)), xg_71_0, xV_58, j_fine f, bI_s, if_neg (by decide), xg_71_1, xg_64_3, wa_65 (by omega), (x8 c hc).1, xg_71_5, xg_71_0, xV_58, j_key x1 f.1 hcu hcc.2.1, bL_s, ws_72 (by omega), ← hz, xg_71_5, wa_72 (by omega), xV_71, x_56 y4 y5.1 y7 h16, bI_s, ki, xV_71, nI_1, xg_71_0, xV_58]
      have step : ∀ z', oJa z z' → JB T N q L z' → GB N z' → z'.2.1 = z.2.1 → ∃ s', bN (mjF (d + 2) 57 [.ref 71, .int (nI c), .int (nI (hC L c).1)] (mjW0 z')) (fun hp => L_55_2 (mjF (d + 2)) m 71 (nI (c + 1)) hp) = some (none, mjW0 s') ∧ GB N s' ∧ (s'.1 58 7 = 0 ↔ (z'.1 58 7 = 0 ∧ ∀ a, a < nmL L c → ∀ b, b < a → ¬ kyT T ((hC L c).1 + 2 + 2 * b) = kyT T ((hC L c).1 + 2 + 2 * a)) ∧ ∀ j, c + 1 ≤ j → j < L.length → OKa T L j) ∧ oJa s s' ∧ (s'.1 58 7 = 0 → CKu L L.length s') := by
        intro z' o' X' g' e2
        obtain ⟨s1, a1, a2, a3, a4, a5, a6, a7⟩ := lq_57 (d := d) hc (nmL L c) 0 mjN z' (by omega) (by have := (vK.n5 x3 hc).2; have := mjN_v; omega) X' g' (fun j hj => absurd hj (by omega))
        have e57 : mjF (d + 2) 57 [.ref 71, .int (nI c), .int (nI (hC L c).1)] (mjW0 z') = some (none, mjW0 s1) := by
          rw [e_57]
          unfold f_57 b_57_0
          exact a1
        have w1 : CKu L (c + 1) s1 := by
          have q62 : s1.2.1 62 = s.2.1 62 := by
            rw [funext fun j => a4.2.1 62 j (by omega), e2, z62]
          intro j hj
          by_cases ej : j = c
          · subst ej
            refine ⟨?_, fun i hi => ?_⟩
            · rw [a5, e2, z72, if_pos rfl, q62]
            · rw [a7 i hi, e2, q62, z62]
          · have wj := w j (by omega)
            have nj := (x3.2 j (by omega)).2.2.2.1
            refine ⟨?_, fun i hi => ?_⟩
            · rw [a5, e2, z72, if_neg ej, q62]; exact wj.1
            · rw [a6 _ (by omega), e2, z73, q62]; exact wj.2 i hi
        obtain ⟨s2, b1, b2, b3, b4, b5⟩ := lq_55 r (c + 1) m s1 (by omega) (by omega) (X'.Ja a4) a2 w1
        refine ⟨s2, by rw [e57, bN_s, b1], b2, ?_, oz.tr (o'.tr (a4.tr b4)), b5⟩
        rw [b3, a3]
        constructor
        · intro ⟨⟨u, v⟩, x⟩
          exact ⟨⟨u, fun a ha => v a (by omega) ha⟩, x⟩
        · intro ⟨⟨u, v⟩, x⟩
          exact ⟨⟨u, fun a _ ha => v a ha⟩, x⟩
      by_cases P : ∀ b, b < c → ¬ kyT T (hC L b).1 = kyT T (hC L c).1
      · have ef : fnd (fun j => decide (kyT T (hC L j).1 = kyT T (hC L c).1)) (c + 1) = some c := fnd_some.mpr ⟨by omega, by simp, fun j hj => by simpa using P j hj⟩
        rw [ef, oI_s, if_pos (Int32.le_refl _)] at pre
        obtain ⟨s', a1, a2, a3, a4⟩ := step z offG.rf Xz gz rfl
        refine ⟨s', pre.trans a1, a2, ?_, a4⟩
        rw [a3, z1]
        constructor
        · intro ⟨⟨u, v⟩, x⟩
          refine ⟨u, fun j h1 h2 => ?_⟩
          by_cases ej : j = c
          · rw [ej]; exact ⟨P, v⟩
          · exact x j (by omega) h2
        · intro ⟨u, v⟩
          exact ⟨⟨u, (v c (by omega) hc).2⟩, fun j h1 h2 => v j (by omega) h2⟩
      · have ⟨b, hb⟩ : ∃ b, b < c ∧ kyT T (hC L b).1 = kyT T (hC L c).1 := by
          apply Classical.byContradiction
          intro no
          exact P (fun b h1 h2 => no ⟨b, h1, h2⟩)
        cases hf : fnd (fun j => decide (kyT T (hC L j).1 = kyT T (hC L c).1)) (c + 1) with
        | none => exact absurd (fnd_none.mp hf b (by omega)) (by simp [hb.2])
        | some a =>
          obtain ⟨a1, a2, a3⟩ := fnd_some.mp hf
          have ai : a < c := by
            apply Classical.byContradiction
            intro no
            exact absurd (a3 b (by omega)) (by simp [hb.2])
          rw [hf, oI_s, if_neg (nI_ge ai (by omega))] at pre
          obtain ⟨z', b1, b2, b3⟩ := j_atG (d := d + 1) (k := 4) y1 gz hcc.2.1 (by decide)
          obtain ⟨s', c1, c2, c3, c4⟩ := step z' b3.Ja (Xz.Ja b3.Ja) (GB.ob b2) (by rw [b3.l])
          refine ⟨s', by rw [pre, b1, bN_s, xV_71, c1], c2, ?_, c4⟩
          rw [c3]
          exact ⟨fun h => absurd h.1.1 b2.2, fun h => absurd ((h.2 c (by omega) hc).1 b hb.1) (by simp [hb.2])⟩
    · refine ⟨s, ?_, g, ⟨fun h => absurd h h7, fun h => absurd h.1 h7⟩, offG.rf, fun h => absurd h h7⟩
      rw [L55_S]
      unfold b_55_2
      rw [xg_71_2, x5.1, yg_0 x4, x7, if_neg (nI_ge (by omega) (by omega)), xg_71_0, xV_58, j_fineB (g.b h7), bI_s, if_pos rfl]
/-- judgeNames -/
theorem x_55 (X : JB T N q L s) (g : GB N s) : ∃ s', mjF (d + 3) 55 [.ref 71] (mjW0 s) = some (none, mjW0 s') ∧ GB N s' ∧ (s'.1 58 7 = 0 ↔ s.1 58 7 = 0 ∧ ∀ j, j < L.length → OKa T L j) ∧ oJa s s' ∧ (s'.1 58 7 = 0 → CKs L s') := by
  obtain ⟨s', a1, a2, a3, a4, a5⟩ := lq_55 (d := d) L.length 0 mjN s (by omega) (by have := X.2.2.1.1; have := mjN_v; omega) X g (fun j hj => absurd hj (by omega))
  refine ⟨s', ?_, a2, ?_, a4, a5⟩
  · rw [e_55]
    unfold f_55 b_55_0
    exact a1
  · rw [a3]
    exact ⟨fun ⟨u, v⟩ => ⟨u, fun j hj => v j (by omega) hj⟩, fun ⟨u, v⟩ => ⟨u, fun j _ hj => v j hj⟩⟩
theorem JX.of (X : JB T N q L s) (c : CKs L s) : JX T N q L s := ⟨X.1, X.2.1, X.2.2.1, c, X.2.2.2.1, X.2.2.2.2.1, X.2.2.2.2.2.1, X.2.2.2.2.2.2.1⟩
end MJA8
