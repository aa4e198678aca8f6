/-! ===== the reference reads a KIND, whole ===== -/
section MJ72
variable {tx : Nat → Int32} {n b d k o g t j c : Nat} {s z : mjSt3} {W : List WF} {os : List Row} {ks : List Nat}
theorem L272_S (R : mjR) (q : Nat) (a : Nat) (x y : Int32) (hp : mjH) : L_272_96 R (q + 1) a x y hp = b_272_96 R (L_272_96 R q) a x y hp := rfl
/-- bad, out of a KIND that is read -/
theorem KP.bad (h : KP tx n b g t j s z c) (m : MR tx n b s k o W os ks) {e : Nat × Nat} (he : e.1 = 1 ∨ e.1 = 2 ∨ e.1 = 3) : MZ (mTT tx n) b (bS z (nI e.1) ((mTT tx n) e.2).2.1) e os.length := by
  have f := bS_at (s := z) (nI e.1) ((mTT tx n) e.2).2.1
  have r := h.2.2.2.1
  refine ⟨m.2.1.1, he, f.1, f.2.1, ?_, ?_⟩
  · rw [f.2.2.1 63 (by decide) (by decide), r.1 97 63 (by unfold chK; omega)]; exact m.2.1.2.2.1
  · rw [f.2.2.2.1 122 (by decide), r.1 122 b (by unfold chK; omega)]; exact m.2.2.2.1.1
/-- the loop is left in a bad state -/
theorem z_k96 {T : TT} {e : Nat × Nat} {m : Nat} (h : MZ T b z e m) (q : Nat) (x : Int32) : L_272_96 (mjF d) (q + 1) 97 x 0 (mjW0 z) = some (some (.int x), mjW0 z) := by
  rw [L272_S]
  unfold b_272_96 b_272_283
  rw [if_pos rfl, xg_97_61, if_neg h.n0]
theorem z_162 {T : TT} {e : Nat × Nat} {m : Nat} (h : MZ T b z e m) (k96 : Nat → Int32 → Int32 → mjH → mjU) (x : Int32) : b_272_162 (mjF d) k96 97 x (mjW0 z) = some (some (.int (-1)), mjW0 z) := by
  unfold b_272_162
  rw [xg_97_61, if_neg h.pos]
theorem i5k {g j : Nat} : (5 : Int32) * nI g + nI j = nI (5 * g + j) := by rw [show (5 : Int32) = nI 5 from rfl, pk_mul, nI_add]
/-- an OWNER is put, then , is asked -/
theorem k_162 (h : KP tx n b g t j s z c) (hj : j < 5) (hg : g < 1600) (hc : c = t + 2 + 2 * j) (ho : (mTT tx n c).1 = 12 ∨ (mTT tx n c).1 = 13 ∨ (mTT tx n c).1 = 3) (k96 : Nat → Int32 → Int32 → mjH → mjU) : ∃ z', KP tx n b g t (j + 1) s z' (c + 1) ∧ b_272_162 (mjF (d + 4)) k96 97 (nI g) (mjW0 z) = (rV (mjW0 z') 97 12 (bI (mjF (d + 4) 271 [.ref 97, .int 44] (mjW0 z')) (fun v11 hp12 => (if v11 = 0 then b_272_267 (mjF (d + 4)) k96 97 (nI g) v11 hp12 else rV hp12 97 12 (bN (mjF (d + 4) 262 [.ref 97] hp12) (fun  hp13 => b_272_267 (mjF (d + 4)) k96 97 (nI g) v11 hp13)))))) := by
  have A := h.at
  have S := v_srt A
  have h1 : ¬ (mTT tx n c).1 = 1 := by rcases ho with e | e | e <;> rw [e] <;> decide
  obtain ⟨z', e1, p1⟩ := (h.own hj hg hc).next (d := d + 1) h1
  refine ⟨z', p1, ?_⟩
  have hcnt : z.1 138 g = nI j := h.2.2.2.2.2.2.1
  have hat : z.1 97 4 = (mTT tx n c).2.1 := A.2.2.1
  have tail : b_272_218 (mjF (d + 4)) k96 97 (nI g) 140 (nI (5 * g + j)) (owR (mTT tx n) c) (mjW0 z) = (rV (mjW0 z') 97 12 (bI (mjF (d + 4) 271 [.ref 97, .int 44] (mjW0 z')) (fun v11 hp12 => (if v11 = 0 then b_272_267 (mjF (d + 4)) k96 97 (nI g) v11 hp12 else rV hp12 97 12 (bN (mjF (d + 4) 262 [.ref 97] hp12) (fun  hp13 => b_272_267 (mjF (d + 4)) k96 97 (nI g) v11 hp13)))))) := by
    unfold b_272_218
    rw [xs_140, if_pos (mj_in_nI (by omega) (by decide)), nI_clamp (by omega), xg_97_52, xg_97_49, xa_138, if_pos (mj_in_nI hg (by decide)), nI_clamp (by omega), uL_i, hcnt, xg_97_4, uL_i, hat, i5k, xs_141, if_pos (mj_in_nI (by omega) (by decide)), nI_clamp (by omega), uL_i, xg_97_49, xa_138, if_pos (mj_in_nI hg (by decide)), nI_clamp (by omega), uI_ne _ _ _ _ (by decide), uL_i, hcnt, nI_1, xs_138, if_pos (mj_in_nI hg (by decide)), nI_clamp (by omega), uI_ne _ _ _ _ (by decide), uL_i, xV_97, e1, bN_s]
  unfold b_272_162
  rw [xg_97_61, h.2.2.1, if_pos (show (0 : Int32) ≤ 0 by decide), xg_97_51, xg_97_49, xa_138, if_pos (mj_in_nI hg (by decide)), nI_clamp (by omega), hcnt, i5k, xg_97_3]
  have w8 : mjF (d + 4) 266 [.ref 97, .int 8] (mjW0 z) = _ := v_word (d := d + 3) A (w := 7) (by decide)
  by_cases e3 : (mTT tx n c).1 = 3
  · rw [if_pos (S.2.1.mpr e3), xg_97_7, A.2.2.2.2 (Or.inr e3)]
    have : owR (mTT tx n) c = (mTT tx n c).2.2.1 := if_pos e3
    rw [← this]
    exact tail
  · rw [if_neg (fun q => e3 (S.2.1.mp q)), xV_97, w8, bI_s, i01]
    by_cases e12 : (mTT tx n c).1 = 12
    · rw [if_pos (show (mTT tx n c).1 = nI (7 + 5) from e12)]
      have : owR (mTT tx n) c = -2 := by unfold owR; rw [if_neg e3, if_pos e12]
      rw [← this]
      exact tail
    · rw [if_neg (show ¬ (mTT tx n c).1 = nI (7 + 5) from e12)]
      have : owR (mTT tx n) c = -1 := by unfold owR; rw [if_neg e3, if_neg e12]
      rw [← this]
      exact tail
theorem k_own (m : MR tx n b s k o W os ks) (hg : g < 1600) : ∀ (f j c q : Nat) (z : mjSt3), f + j = 6 → j ≤ 5 → c = t + 2 + 2 * j → f < q → KP tx n b g t j s z c → match pOwn (mTT tx n) f j c with
    | .inl e => ∃ z' v, L_272_96 (mjF (d + 5)) q 97 (nI g) 1 (mjW0 z) = some (some (.int v), mjW0 z') ∧ MZ (mTT tx n) b z' e os.length ∧ offG (fun h j => chK b g h j ∨ (h = 97 ∧ (j = 61 ∨ j = 62))) (chKL g) s z'
    | .inr c' => j + cntO (mTT tx n) f c ≤ 5 ∧ ∃ z', L_272_96 (mjF (d + 5)) q 97 (nI g) 1 (mjW0 z) = some (some (.int (nI g)), mjW0 z') ∧ KP tx n b g t (j + cntO (mTT tx n) f c) s z' c' := by
  intro f
  induction f with
  | zero => intro j c q z hf hj; omega
  | succ f ih =>
    intro j c q z hf hj hc hq p
    obtain ⟨q, rfl⟩ : ∃ x, q = x + 2 := ⟨q - 2, by omega⟩
    have A := p.at
    have S := v_srt A
    have w8 : mjF (d + 5) 266 [.ref 97, .int 8] (mjW0 z) = _ := v_word (d := d + 4) A (w := 7) (by decide)
    have w9 : mjF (d + 5) 266 [.ref 97, .int 9] (mjW0 z) = _ := v_word (d := d + 4) A (w := 8) (by decide)
    have om : ∀ (x y : Int32), offG (fun h j => chK b g h j ∨ (h = 97 ∧ (j = 61 ∨ j = 62))) (chKL g) s (bS z x y) := by
      intro x y
      have a : offG (fun h j => chK b g h j ∨ (h = 97 ∧ (j = 61 ∨ j = 62))) (chKL g) s z := offG.mono p.2.2.2.1 (fun _ _ q => Or.inl q) (fun _ _ q => q)
      have fb := bS_at (s := z) x y
      refine a.tr (offG_of (fun h j w => ?_) fb.2.2.2.2)
      by_cases e : h = 97
      · subst e
        exact fb.2.2.1 j (fun q => w (Or.inr ⟨rfl, Or.inl q⟩)) (fun q => w (Or.inr ⟨rfl, Or.inr q⟩))
      · rw [fb.2.2.2.1 h e]
    rw [L272_S]
    unfold b_272_96 pOwn
    rw [if_neg (show ¬ (1 : Int32) = 0 by decide), xg_97_3]
    have good : (mTT tx n c).1 = 12 ∨ (mTT tx n c).1 = 13 ∨ (mTT tx n c).1 = 3 → match (if j = 5 then .inl (3, c) else if (mTT tx n (c + 1)).1 = 44 then pOwn (mTT tx n) f (j + 1) (c + 2) else if (mTT tx n (c + 1)).1 = 93 then .inr (c + 2) else .inl (F2 (mTT tx n) (c + 1)) : (Nat × Nat) ⊕ Nat) with
        | .inl e => ∃ z' v, b_272_126 (mjF (d + 5)) (L_272_96 (mjF (d + 5)) (q + 1)) 97 (nI g) (mjW0 z) = some (some (.int v), mjW0 z') ∧ MZ (mTT tx n) b z' e os.length ∧ offG (fun h j => chK b g h j ∨ (h = 97 ∧ (j = 61 ∨ j = 62))) (chKL g) s z'
        | .inr c' => j + cntO (mTT tx n) (f + 1) c ≤ 5 ∧ ∃ z', b_272_126 (mjF (d + 5)) (L_272_96 (mjF (d + 5)) (q + 1)) 97 (nI g) (mjW0 z) = some (some (.int (nI g)), mjW0 z') ∧ KP tx n b g t (j + cntO (mTT tx n) (f + 1) c) s z' c' := by
      intro ho
      have h1 : ¬ (mTT tx n c).1 = 1 := by rcases ho with e | e | e <;> rw [e] <;> decide
      unfold b_272_126 b_272_131
      rw [if_neg (show ¬ (1 : Int32) = 0 by decide), xg_97_49, xa_138, if_pos (mj_in_nI hg (by decide)), nI_clamp (by omega), p.2.2.2.2.2.2.1]
      by_cases j5 : j = 5
      · subst j5
        rw [if_pos rfl, if_pos (show nI 5 = 5 from rfl), xg_97_4, A.2.2.1, xV_97, v_fail p.2.2.1, bN_s]
        have zz := p.bad m (e := (3, c)) (Or.inr (Or.inr rfl))
        refine ⟨_, _, z_162 (d := d + 5) (z := bS z 3 (mTT tx n c).2.1) zz _ _, zz, om _ _⟩
      · rw [if_neg j5, if_neg (show ¬ nI j = 5 from fun e => j5 ((nI_eq (a := j) (b := 5) (by omega) (by omega)).mp e))]
        obtain ⟨z1, p1, e1⟩ := k_162 (d := d + 1) p (by omega) hg hc ho (L_272_96 (mjF (d + 5)) (q + 1))
        rw [e1, xV_97, v_sign p1.at (by decide), bI_s, i01]
        by_cases h44 : (mTT tx n (c + 1)).1 = 44
        · obtain ⟨z2, e2, p2⟩ := p1.next (d := d + 2) (by rw [h44]; decide)
          rw [if_pos h44, xV_97, e2, bN_s, if_pos h44]
          unfold b_272_267
          have r := ih (j + 1) (c + 2) (q + 1) z2 (by omega) (by omega) (by omega) (by omega) p2
          have ec : cntO (mTT tx n) (f + 1) c = cntO (mTT tx n) f (c + 2) + 1 := if_pos h44
          simp only [if_pos h44]
          rw [ec, show j + (cntO (mTT tx n) f (c + 2) + 1) = j + 1 + cntO (mTT tx n) f (c + 2) by omega]
          exact r
        · rw [if_neg h44, if_neg h44]
          unfold b_272_267
          have ec : cntO (mTT tx n) (f + 1) c = 1 := if_neg h44
          simp only [if_neg h44]
          rw [L272_S]
          unfold b_272_96 b_272_283
          rw [if_pos rfl, xg_97_61, p1.2.2.1, if_pos rfl, xV_97]
          by_cases h93 : (mTT tx n (c + 1)).1 = 93
          · obtain ⟨z2, e2, p2⟩ := p1.next (d := d + 1) (by rw [h93]; decide)
            simp only [if_pos h93]
            rw [ec]
            refine ⟨by omega, z2, ?_, p2⟩
            rw [e_270]
            unfold f_270 b_270_0
            rw [xV_97, v_sign p1.at (by decide), bI_s, i01, if_pos h93, xV_97, e2, bN_s, bN_s]
          · simp only [if_neg h93]
            have zz := p1.bad m (e := F2 (mTT tx n) (c + 1)) (F2_in _ _)
            refine ⟨_, nI g, ?_, zz, ?_⟩
            · rw [e_270]
              unfold f_270 b_270_0
              rw [xV_97, v_sign p1.at (by decide), bI_s, i01, if_neg h93, xV_97, v_wrong p1.at p1.2.2.1, bN_s, bN_s]
            · have a : offG (fun h j => chK b g h j ∨ (h = 97 ∧ (j = 61 ∨ j = 62))) (chKL g) s z1 := offG.mono p1.2.2.2.1 (fun _ _ q => Or.inl q) (fun _ _ q => q)
              have fb := bS_at (s := z1) (nI (F2 (mTT tx n) (c + 1)).1) ((mTT tx n) (F2 (mTT tx n) (c + 1)).2).2.1
              refine a.tr (offG_of (fun h j w => ?_) fb.2.2.2.2)
              by_cases e : h = 97
              · subst e
                exact fb.2.2.1 j (fun q => w (Or.inr ⟨rfl, Or.inl q⟩)) (fun q => w (Or.inr ⟨rfl, Or.inr q⟩))
              · rw [fb.2.2.2.1 h e]
    by_cases e3 : (mTT tx n c).1 = 3
    · rw [if_pos (S.2.1.mpr e3), if_pos (Or.inr (Or.inr e3))]
      exact good (Or.inr (Or.inr e3))
    rw [if_neg (fun q => e3 (S.2.1.mp q)), xV_97, w8, bI_s, i01]
    by_cases e12 : (mTT tx n c).1 = 12
    · rw [if_pos (show (mTT tx n c).1 = nI (7 + 5) from e12), if_pos (Or.inl e12)]
      exact good (Or.inl e12)
    rw [if_neg (show ¬ (mTT tx n c).1 = nI (7 + 5) from e12), xV_97, w9, bI_s, i01]
    by_cases e13 : (mTT tx n c).1 = 13
    · rw [if_pos (show (mTT tx n c).1 = nI (8 + 5) from e13), if_pos (Or.inr (Or.inl e13))]
      exact good (Or.inr (Or.inl e13))
    rw [if_neg (show ¬ (mTT tx n c).1 = nI (8 + 5) from e13), if_neg (show ¬ ((mTT tx n c).1 = 12 ∨ (mTT tx n c).1 = 13 ∨ (mTT tx n c).1 = 3) from fun q => q.elim e12 (fun q => q.elim e13 e3))]
    unfold b_272_131
    have zz := p.bad m (e := F2 (mTT tx n) c) (F2_in _ _)
    rw [if_pos rfl, xV_97, v_wrong A p.2.2.1, bN_s]
    exact ⟨_, _, z_162 (d := d + 5) zz _ _, zz, om _ _⟩
end MJ72
