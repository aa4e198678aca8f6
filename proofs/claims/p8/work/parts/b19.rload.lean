/-! ===== the reference's load ===== -/
/-- all that load changes when it refuses -/
def oLm (b : Nat) : mjSt3 → mjSt3 → Prop := offG (fun h j => chRd b h j ∨ chJA b h j ∨ (h = 97 ∧ (j = 1 ∨ j = 2 ∨ j = 59 ∨ j = 60 ∨ j = 61 ∨ j = 63 ∨ j = 129))) (fun h j => chRdL b h j ∨ h = 158)
/-- the new program is taken -/
def RSt (b : Nat) (s s' : mjSt3) : Prop := offG (fun h j => h = 97 ∧ (j = 9 ∨ j = 10 ∨ j = 96 ∨ j = 116)) (fun _ _ => False) s s' ∧ s'.1 97 9 = nI b ∧ s'.1 97 10 = 1 ∧ s'.1 97 96 = 0 ∧ s'.1 97 116 = 0
section MJB19
variable {T : TT} {tx ty : Nat → Int32} {N b h n tp : Nat} {tr : Bool} {s s' : mjSt3}
theorem mTT_cg (e : ∀ i, i < n → tx i = ty i) (hb : ∀ i, i < n → byR (tx i)) : mTT tx n = mTT ty n := by
  unfold mTT
  funext k
  rw [cg_tD e hb k, cg_tS e hb k]
theorem NKp_m (hb : ∀ i, i < n → byR (tx i)) : NKp (mTT tx n) N := by
  intro t _ h3
  have h3' : (tD tx n t).1 = 3 := h3
  obtain ⟨w1, w2, _⟩ := nm_let hb (k := t) (Or.inr h3')
  have big := rN_big (g := gM) (fun b hb => (cd_of hb).2.1) w1 w2
  have k : (lN (rN gM (tD tx n t).2.1)).toInt = (rN gM (tD tx n t).2.1 : Int) := pk_lT big
  have e : kyT (mTT tx n) t = lN (rN gM (tD tx n t).2.1) := rfl
  rw [e]
  constructor
  · intro q
    rw [q] at k
    have z : (-1 : Int64).toInt = -1 := by decide
    omega
  · intro q
    rw [q] at k
    have z : (-2 : Int64).toInt = -2 := by decide
    omega
theorem b2_bz (v : Bool) : (b2 v == 0 || b2 v == 1) = true := by cases v <;> rfl
/-- a bad state to the end -/
theorem x_260b (R : mjR) (B : bR0 s) : ∃ s', b_260_59 R 97 (mjW0 s) = some (some (.int (s.1 97 61)), mjW0 s') ∧ offG (fun h j => h = 97 ∧ (j = 59 ∨ j = 60)) (fun _ _ => False) s s' := by
  obtain ⟨z1, g1⟩ : ∃ y, y = uI s 97 (upd (s.1 97) 59 (s.1 97 61)) := ⟨_, rfl⟩
  obtain ⟨z2, g2⟩ : ∃ y, y = uI z1 97 (upd (z1.1 97) 60 (z1.1 97 62)) := ⟨_, rfl⟩
  have f1 : z1.1 97 61 = s.1 97 61 := by rw [g1, uI_same, upd_g, if_neg (by decide)]
  have f2 : z2.1 97 61 = s.1 97 61 := by rw [g2, uI_same, upd_g, if_neg (by decide), f1]
  refine ⟨z2, ?_, offG.tr (b := z1) (by rw [g1]; exact offG.w ⟨rfl, by omega⟩) (by rw [g2]; exact offG.w ⟨rfl, by omega⟩)⟩
  unfold b_260_59
  rw [xg_97_61, xp_97_59, ← g1, xg_97_61, f1, if_neg B.ng, xg_97_62]
  unfold b_260_83
  rw [xp_97_60, ← g2, xg_97_61, f2, if_neg B, xg_97_61, f2]
/-- a good one -/
theorem x_260g (R : mjR) (g : gR0 s) (h63 : s.1 97 63 = nI b) : ∃ s1 s', b_260_59 R 97 (mjW0 s) = some (some (.int 0), mjW0 s') ∧ offG (fun h j => h = 97 ∧ (j = 59 ∨ j = 60)) (fun _ _ => False) s s1 ∧ RSt b s1 s' := by
  obtain ⟨z1, g1⟩ : ∃ y, y = uI s 97 (upd (s.1 97) 59 (s.1 97 61)) := ⟨_, rfl⟩
  obtain ⟨z2, g2⟩ : ∃ y, y = uI z1 97 (upd (z1.1 97) 60 (-1)) := ⟨_, rfl⟩
  obtain ⟨z3, g3⟩ : ∃ y, y = uI z2 97 (upd (z2.1 97) 9 (nI b)) := ⟨_, rfl⟩
  obtain ⟨z4, g4⟩ : ∃ y, y = uI z3 97 (upd (z3.1 97) 10 1) := ⟨_, rfl⟩
  obtain ⟨z5, g5⟩ : ∃ y, y = uI z4 97 (upd (z4.1 97) 96 0) := ⟨_, rfl⟩
  obtain ⟨z6, g6⟩ : ∃ y, y = uI z5 97 (upd (z5.1 97) 116 0) := ⟨_, rfl⟩
  have v1 : ∀ j, z1.1 97 j = if j = 59 then s.1 97 61 else s.1 97 j := fun j => by rw [g1, uI_same, upd_g]
  have v2 : ∀ j, z2.1 97 j = if j = 60 then -1 else z1.1 97 j := fun j => by rw [g2, uI_same, upd_g]
  have v3 : ∀ j, z3.1 97 j = if j = 9 then nI b else z2.1 97 j := fun j => by rw [g3, uI_same, upd_g]
  have v4 : ∀ j, z4.1 97 j = if j = 10 then 1 else z3.1 97 j := fun j => by rw [g4, uI_same, upd_g]
  have v5 : ∀ j, z5.1 97 j = if j = 96 then 0 else z4.1 97 j := fun j => by rw [g5, uI_same, upd_g]
  have v6 : ∀ j, z6.1 97 j = if j = 116 then 0 else z5.1 97 j := fun j => by rw [g6, uI_same, upd_g]
  have f1 : z1.1 97 61 = 0 := by rw [v1, if_neg (by decide)]; exact g
  have f2 : z2.1 97 61 = 0 := by rw [v2, if_neg (by decide)]; exact f1
  have f3 : z2.1 97 63 = nI b := by rw [v2, if_neg (by decide), v1, if_neg (by decide)]; exact h63
  refine ⟨z2, z6, ?_, offG.tr (b := z1) (by rw [g1]; exact offG.w ⟨rfl, by omega⟩) (by rw [g2]; exact offG.w ⟨rfl, by omega⟩), offG.tr (b := z3) (by rw [g3]; exact offG.w ⟨rfl, by omega⟩) (offG.tr (b := z4) (by rw [g4]; exact offG.w ⟨rfl, by omega⟩) (offG.tr (b := z5) (by rw [g5]; exact offG.w ⟨rfl, by omega⟩) (by rw [g6]; exact offG.w ⟨rfl, by omega⟩))), ?_, ?_, ?_, ?_⟩
  · unfold b_260_59
    rw [xg_97_61, xp_97_59, ← g1, xg_97_61, f1, if_pos rfl]
    unfold b_260_83
    rw [xp_97_60, ← g2, xg_97_61, f2, if_pos (Int32.le_refl _), xg_97_63, f3, xp_97_9, ← g3, xp_97_10 (by decide), ← g4, xp_97_96, ← g5, xp_97_116, ← g6]
  · rw [v6, if_neg (by decide), v5, if_neg (by decide), v4, if_neg (by decide), v3, if_pos rfl]
  · rw [v6, if_neg (by decide), v5, if_neg (by decide), v4, if_pos rfl]
  · rw [v6, if_neg (by decide), v5, if_pos rfl]
  · rw [v6, if_pos rfl]
theorem oLm_97 (o : offG (fun h j => h = 97 ∧ (j = 59 ∨ j = 60)) (fun _ _ => False) s s') : oLm b s s' := offG.mono o (fun x y w => Or.inr (Or.inr ⟨w.1, by omega⟩)) (fun _ _ x => x.elim)
/-- load at a number of signs that the tape has -/
theorem x_260 (hta : s.1 97 1 = nI tp) (htp : tp ≤ 3000) (hn : n ≤ tp) (hbt : ∀ i, i < n → byR (s.1 98 i)) (hw : ∀ i, i < 16 → s.2.1 99 (i + 1) = lN (rN gM (wdL.getD i []))) (h9 : s.1 97 9 = nI h) (hh : h ≤ 1) (hN : N ≤ 3000) (h0 : (mTT (s.1 98) n N).1 = 0) : match pText (mTT (s.1 98) n) (N + 1) (800 * (1 - h)) with
    | .inl _ => ∃ v s', ¬ v = 0 ∧ mjF 1999 260 [.ref 97, .int (nI n), .int (b2 tr)] (mjW0 s) = some (some (.int v), mjW0 s') ∧ oLm (1 - h) s s' ∧ s'.1 97 1 = 0
    | .inr t => ∀ rs kb z, TRc (mTT (s.1 98) n) N (800 * (1 - h)) t rs kb z → TRx t rs → (OKz (mTT (s.1 98) n) (800 * (1 - h)) t rs z tr → ∃ s1 s', mjF 1999 260 [.ref 97, .int (nI n), .int (b2 tr)] (mjW0 s) = some (some (.int 0), mjW0 s') ∧ oLm (1 - h) s s1 ∧ s1.1 97 1 = 0 ∧ HBd (mTT (s.1 98) n) N (1 - h) t rs kb z tr ∧ JBI (mTT (s.1 98) n) N (1 - h) t rs z tr (fun _ => True) s1 ∧ RSt (1 - h) s1 s') ∧ (¬ OKz (mTT (s.1 98) n) (800 * (1 - h)) t rs z tr → ∃ v s', ¬ v = 0 ∧ mjF 1999 260 [.ref 97, .int (nI n), .int (b2 tr)] (mjW0 s) = some (some (.int v), mjW0 s') ∧ oLm (1 - h) s s' ∧ s'.1 97 1 = 0) := by
  obtain ⟨b, hb⟩ : ∃ b, b = 1 - h := ⟨_, rfl⟩
  have b1 : b ≤ 1 := by omega
  rw [← hb]
  obtain ⟨z1, g1⟩ : ∃ y, y = uI s 97 (upd (s.1 97) 1 0) := ⟨_, rfl⟩
  obtain ⟨z2, g2⟩ : ∃ y, y = uI z1 97 (upd (z1.1 97) 2 (nI n)) := ⟨_, rfl⟩
  obtain ⟨z3, g3⟩ : ∃ y, y = uI z2 97 (upd (z2.1 97) 63 (nI b)) := ⟨_, rfl⟩
  obtain ⟨z4, g4⟩ : ∃ y, y = uI z3 97 (upd (z3.1 97) 61 0) := ⟨_, rfl⟩
  obtain ⟨z5, g5⟩ : ∃ y, y = uI z4 97 (upd (z4.1 97) 129 (b2 tr)) := ⟨_, rfl⟩
  have v1 : ∀ j, z1.1 97 j = if j = 1 then 0 else s.1 97 j := fun j => by rw [g1, uI_same, upd_g]
  have v2 : ∀ j, z2.1 97 j = if j = 2 then nI n else z1.1 97 j := fun j => by rw [g2, uI_same, upd_g]
  have v3 : ∀ j, z3.1 97 j = if j = 63 then nI b else z2.1 97 j := fun j => by rw [g3, uI_same, upd_g]
  have v4 : ∀ j, z4.1 97 j = if j = 61 then 0 else z3.1 97 j := fun j => by rw [g4, uI_same, upd_g]
  have v5 : ∀ j, z5.1 97 j = if j = 129 then b2 tr else z4.1 97 j := fun j => by rw [g5, uI_same, upd_g]
  have w1 : z5.1 97 1 = 0 := by rw [v5, if_neg (by decide), v4, if_neg (by decide), v3, if_neg (by decide), v2, if_neg (by decide), v1, if_pos rfl]
  have w2 : z5.1 97 2 = nI n := by rw [v5, if_neg (by decide), v4, if_neg (by decide), v3, if_neg (by decide), v2, if_pos rfl]
  have w63 : z5.1 97 63 = nI b := by rw [v5, if_neg (by decide), v4, if_neg (by decide), v3, if_pos rfl]
  have w61 : z5.1 97 61 = 0 := by rw [v5, if_neg (by decide), v4, if_pos rfl]
  have w129 : z5.1 97 129 = b2 tr := by rw [v5, if_pos rfl]
  have u9 : z2.1 97 9 = nI h := by rw [v2, if_neg (by decide), v1, if_neg (by decide)]; exact h9
  have o5 : oLm b s z5 := offG.tr (b := z1) (by rw [g1]; exact offG.w (Or.inr (Or.inr ⟨rfl, by omega⟩))) (offG.tr (b := z2) (by rw [g2]; exact offG.w (Or.inr (Or.inr ⟨rfl, by omega⟩))) (offG.tr (b := z3) (by rw [g3]; exact offG.w (Or.inr (Or.inr ⟨rfl, by omega⟩))) (offG.tr (b := z4) (by rw [g4]; exact offG.w (Or.inr (Or.inr ⟨rfl, by omega⟩))) (by rw [g5]; exact offG.w (Or.inr (Or.inr ⟨rfl, by omega⟩))))))
  have r5 : ∀ x, ¬ x = 97 → z5.1 x = s.1 x := fun x e => by rw [g5, uI_ne _ _ _ _ e, g4, uI_ne _ _ _ _ e, g3, uI_ne _ _ _ _ e, g2, uI_ne _ _ _ _ e, g1, uI_ne _ _ _ _ e]
  have l5 : z5.2 = s.2 := by rw [g5, g4, g3, g2, g1]; rfl
  have mb : MB (s.1 98) n z5 := ⟨by omega, w2, r5 98 (by decide), hbt, fun i hi => by rw [l5]; exact hw i hi⟩
  have A := m_all (D := 1982) (b := b) h0 hN mb b1 w61 w63
  have pre : mjF 1999 260 [.ref 97, .int (nI n), .int (b2 tr)] (mjW0 s) = bN (mjF 1998 261 [.ref 97] (mjW0 z5)) (fun hp8 => gI hp8 97 12 61 (fun v9 => (if v9 = 0 then rV hp8 97 12 (bN (mjF 1998 299 [.ref 97] hp8) (fun hp10 => b_260_59 (mjF 1998) 97 hp10)) else b_260_59 (mjF 1998) 97 hp8))) := by
    rw [show (1999 : Nat) = 1998 + 1 from rfl, e_260]
    unfold f_260 b_260_0
    rw [if_neg (nI_pos (show n < 2 ^ 31 by omega)), xg_97_1, hta, if_pos (nI_le hn (by omega)), xp_97_1, ← g1, xp_97_2, ← g2, xg_97_9, u9, show (1 : Int32) - nI h = nI b by
      have : h = 0 ∨ h = 1 := by omega
      rcases this with e | e
      · subst e; subst hb; rfl
      · subst e; subst hb; rfl, xp_97_63, ← g3, xp_97_61, ← g4, xp_97_129 (b2_bz tr), ← g5, xV_97]
  have bad : ∀ x, oLm b s x → x.1 97 1 = 0 → bR0 x → mjF 1999 260 [.ref 97, .int (nI n), .int (b2 tr)] (mjW0 s) = b_260_59 (mjF 1998) 97 (mjW0 x) → ∃ v s', ¬ v = 0 ∧ mjF 1999 260 [.ref 97, .int (nI n), .int (b2 tr)] (mjW0 s) = some (some (.int v), mjW0 s') ∧ oLm b s s' ∧ s'.1 97 1 = 0 := by
    intro x ox hx B e
    obtain ⟨s', a1, a2⟩ := x_260b (mjF 1998) B
    exact ⟨_, s', B.ng, e.trans a1, offG.tr ox (oLm_97 a2), by rw [a2.1 97 1 (by omega)]; exact hx⟩
  cases hP : pText (mTT (s.1 98) n) (N + 1) (800 * b) with
  | inl e =>
    rw [hP] at A
    obtain ⟨s1, x, a1, a2, a3⟩ := A
    obtain ⟨_, e1, e2, _⟩ := a2
    have B : bR0 s1 := by
      unfold bR0
      rw [e2]
      rcases e1 with e1 | e1 | e1 <;> rw [e1] <;> decide
    have o1 : oLm b s s1 := offG.tr o5 (offG.mono a3 (fun x y w => Or.inl w) (fun x y w => Or.inl w))
    refine bad s1 o1 ?_ B ?_
    · rw [a3.1 97 1 (by unfold chRd chS chE; omega)]; exact w1
    · have a1' : mjF 1998 261 [.ref 97] (mjW0 z5) = some (none, mjW0 s1) := a1
      rw [pre, a1', bN_s, xg_97_61, if_neg B.ng]
  | inr t =>
    rw [hP] at A
    obtain ⟨s1, W', c, a1, M, rc, h123, h16, h24, l1, l2, _, a3⟩ := A
    intro rs kb z R X
    have o1 : oLm b s s1 := offG.tr o5 (offG.mono a3 (fun x y w => Or.inl w) (fun x y w => Or.inl w))
    have a1' : mjF 1998 261 [.ref 97] (mjW0 z5) = some (none, mjW0 s1) := a1
    have g61 : s1.1 97 61 = 0 := M.2.1.2.1
    have w1' : s1.1 97 1 = 0 := by rw [a3.1 97 1 (by unfold chRd chS chE; omega)]; exact w1
    have w129' : s1.1 97 129 = b2 tr := by rw [a3.1 97 129 (by unfold chRd chS chE; omega)]; exact w129
    have J : RJ (mTT (s.1 98) n) N b t.2.2.1 t.1 s1 := ⟨⟨b1, M.2.1.2.2.1⟩, rc, M.2.2.2.2.2, by omega, h24, R.hn0 h16, NKp_m hbt⟩
    obtain ⟨s2, c1, o2, c3⟩ := x_299 (d := 1989) (tr := tr) R X (pText_st hP) hN h0 (by omega) J w129' g61 M.2.2.2.1.2 h123
    have pre2 : mjF 1999 260 [.ref 97, .int (nI n), .int (b2 tr)] (mjW0 s) = b_260_59 (mjF 1998) 97 (mjW0 s2) := by
      have c1' : mjF 1998 299 [.ref 97] (mjW0 s1) = some (none, mjW0 s2) := c1
      rw [pre, a1', bN_s, xg_97_61, if_pos g61, xV_97, c1', bN_s]
    have o2' : oLm b s s2 := offG.tr o1 (offG.mono o2 (fun x y w => Or.inr (Or.inl w)) (fun x y w => Or.inr w))
    have w1'' : s2.1 97 1 = 0 := by rw [o2.1 97 1 (by unfold chJA; omega)]; exact w1'
    rcases c3 with ⟨ok, k2, k3, k4⟩ | ⟨nok, k2⟩
    · refine ⟨fun _ => ?_, fun h => absurd ok h⟩
      obtain ⟨s3, s4, d1, d2, d3⟩ := x_260g (b := b) (mjF 1998) k2 k4.1.1.1.1.2
      refine ⟨s3, s4, pre2.trans d1, offG.tr o2' (oLm_97 d2), by rw [d2.1 97 1 (by omega)]; exact w1'', k3, ?_, d3⟩
      have f : ∀ j, ¬ (j = 59 ∨ j = 60) → s3.1 97 j = s2.1 97 j := fun j hj => d2.1 97 j (by omega)
      have r3 : ∀ x, ¬ x = 97 → s3.1 x = s2.1 x := fun x hx => funext fun y => d2.1 x y (by omega)
      have l3 : s3.2 = s2.2 := Prod.ext (funext fun x => funext fun j => d2.2.1 x j (fun e => e)) d2.2.2
      exact k4.loc k3 ⟨⟨f 63 (by omega), f 129 (by omega)⟩, fun x y hx => by rw [r3 x (by unfold inB at hx; omega)], fun x y _ => by rw [l3]⟩
    · exact ⟨fun h => absurd h nok, fun _ => bad s2 o2' w1'' k2 pre2⟩
end MJB19
