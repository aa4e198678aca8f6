/-! ===== the reference's readE: its rounds ===== -/
section MJ74
variable {tx : Nat → Int32} {n b D k o q l m : Nat} {s s' : mjSt3} {W : List WF} {os : List Row} {ks : List Nat}
/-- the loop of readE; readBehind in its middle: while - waits, while operators wait -/
noncomputable def lE (D m : Nat) (w : Int32) (s : mjSt3) : mjU := L_287_18 (mjF (D + 1)) m 97 w (mjW0 s)
noncomputable def mQ (D m q : Nat) (s : mjSt3) : mjU := bI (L_291_53 (mjF D) q 97 (mjW0 s)) (fun v hp => L_287_18 (mjF (D + 1)) m 97 v hp)
noncomputable def m1Q (D m q l : Nat) (s : mjSt3) : mjU := bI (L_291_118 (mjF D) q 97 (nI l) (mjW0 s)) (fun v hp => L_287_18 (mjF (D + 1)) m 97 v hp)
theorem L287_S (R : mjR) (m : Nat) (a : Nat) (x : Int32) (hp : mjH) : L_287_18 R (m + 1) a x hp = b_287_18 R (L_287_18 R m) a x hp := rfl
theorem L53_S (R : mjR) (m : Nat) (a : Nat) (hp : mjH) : L_291_53 R (m + 1) a hp = b_291_53 R (L_291_53 R m) a hp := rfl
theorem L118_S (R : mjR) (m : Nat) (a : Nat) (x : Int32) (hp : mjH) : L_291_118 R (m + 1) a x hp = b_291_118 R (L_291_118 R m) a x hp := rfl
/-- what waits on top -/
theorem MR.top {f : WF} (h : MR tx n b s k o (W ++ [f]) os ks) : Wt s W.length f ∧ s.1 97 76 = nI (W.length + 1) := by
  refine ⟨h.2.2.1.2 W.length f (by rw [List.getElem?_append_right (Nat.le_refl _), Nat.sub_self]; rfl), ?_⟩
  have := h.2.2.1.1
  rw [List.length_append] at this
  exact this
theorem lE_z {T : TT} {e : Nat × Nat} {x : Nat} (h : MZ T b s e x) (w : Int32) : lE D (m + 1) w s = some (none, mjW0 s) := by
  unfold lE
  rw [L287_S]
  unfold b_287_18
  rw [xg_97_61, if_neg h.n0]
/-- readAtom's turn -/
theorem lE_1 {f : WF} (h : MR tx n b s k o (W ++ [f]) os ks) (hl : W.length < 64) : lE D (m + 1) 1 s = bI (mjF (D + 1) 289 [.ref 97] (mjW0 s)) (fun v hp => L_287_18 (mjF (D + 1)) m 97 v hp) := by
  unfold lE
  rw [L287_S]
  unfold b_287_18
  rw [xg_97_61, h.2.1.2.1, if_pos rfl, xg_97_76, h.top.2, if_neg (nI_nle (by omega) (by omega)), if_neg (show ¬ (1 : Int32) = 0 by decide), xV_97]
theorem lE_0 {f : WF} (h : MR tx n b s k o (W ++ [f]) os ks) (hl : W.length < 64) : lE D (m + 1) 0 s = bI (mjF (D + 1) 291 [.ref 97] (mjW0 s)) (fun v hp => L_287_18 (mjF (D + 1)) m 97 v hp) := by
  unfold lE
  rw [L287_S]
  unfold b_287_18
  rw [xg_97_61, h.2.1.2.1, if_pos rfl, xg_97_76, h.top.2, if_neg (nI_nle (by omega) (by omega)), if_pos rfl, xV_97]
/-- behind a POST -/
theorem lE_mid {f : WF} (h : MR tx n b s k o (W ++ [f]) os ks) (hl : W.length < 64) (h46 : ¬ (mTT tx n k).1 = 46) (h20 : ¬ (mTT tx n k).1 = 20) : lE (D + 1) (m + 1) 0 s = mQ (D + 1) m mjN s := by
  have w16 : mjF (D + 1) 266 [.ref 97, .int 16] (mjW0 s) = _ := v_word (d := D) h.at (w := 15) (by decide)
  rw [lE_0 h hl, e_291]
  unfold f_291 b_291_0 mQ
  rw [xV_97, v_sign h.at (by decide), bI_s, i01, if_neg h46, xV_97, w16, bI_s, i01, if_neg (show ¬ (mTT tx n k).1 = nI (15 + 5) from h20)]
theorem pk1 {x : Nat} : nI (x + 1) - (1 : Int32) = nI x := nI_pred x
/-- a - is taken off -/
theorem mQ_minus {w2 : Int32} {w3 : Int32} {w4 w5 : Int32} (h : MR tx n b s k (o + 1) (W ++ [(2, w2, w3, w4, w5)]) os ks) (hl : W.length < 64) (ho : os.length < 4990) : ∃ s', (∀ m q, mQ (D + 1) m (q + 1) s = mQ (D + 1) m q s') ∧ MR tx n b s' k o W (os ++ [(8, w3, 0, 0, 0)]) ks ∧ offE b s s' ∧ s'.1 97 77 = 0 := by
  have t := h.top
  have a1 := h.pop
  have e1 : (uI s 97 (upd (s.1 97) 76 (nI W.length))).1 97 64 = nI (o + 1) := a1.2.1.2.2.2
  have a2 := a1.w64 o
  obtain ⟨s3, e3, a3, r3, f3⟩ := m_order (d := D) a2 ho 8 w3 0 0
  have a4 := a3.w97 (j := 77) (v := 0) (by omega)
  refine ⟨_, fun m q => ?_, a4, ((w97_off (by omega)).tr (w97_off (by omega))).tr (r3.tr (w97_off (by omega))), ?_⟩
  · unfold mQ
    rw [L53_S]
    unfold b_291_53
    rw [xg_97_72, xg_97_76, t.2, pk1, xa_151, if_pos (mj_in_nI hl (by decide)), nI_clamp (by omega), t.1.1, if_pos rfl, xg_97_76, t.2, pk1, xp_97_76, xg_97_64, e1, pk1, xp_97_64, xg_97_74, xg_97_76, a2.2.2.1.1, xa_153, if_pos (mj_in_nI hl (by decide)), nI_clamp (by omega), uI_ne _ _ _ _ (show ¬ 153 = 97 by decide), uI_ne _ _ _ _ (show ¬ 153 = 97 by decide), t.1.2.2.1, xV_97, e3, bN_s, xp_97_77]
  · rw [uI_same, up_same]
/-- no - waits: the operators' turn -/
theorem mQ_1 {f : WF} (h : MR tx n b s k o (W ++ [f]) os ks) (hl : W.length < 64) (hf : ¬ f.1 = 2) : mQ (D + 1) m (q + 1) s = m1Q (D + 1) m mjN (lvl (mTT tx n k).1) s := by
  have t := h.top
  unfold mQ m1Q
  rw [L53_S]
  unfold b_291_53
  rw [xg_97_72, xg_97_76, t.2, pk1, xa_151, if_pos (mj_in_nI hl (by decide)), nI_clamp (by omega), t.1.1, if_neg hf, xV_97, v_level h.at, bI_s]
/-- the rank of an operator that waits -/
def lvO (x : Int32) : Nat := if x = 43 ∨ x = 45 then 2 else if x = 42 ∨ x = 47 ∨ x = 37 then 3 else 1
theorem v_lvO {hp : mjH} {d : Nat} (x : Int32) : mjF (d + 1) 296 [.int x] hp = some (some (.int (nI (lvO x))), hp) := by
  rw [e_296]
  unfold f_296 b_296_0 b_296_12 b_296_34 lvO
  by_cases a : x = 43
  · rw [if_pos a, if_pos (Or.inl a)]; rfl
  by_cases b : x = 45
  · rw [if_neg a, if_pos b, if_pos (Or.inr b)]; rfl
  rw [if_neg a, if_neg b, if_neg (show ¬ (x = 43 ∨ x = 45) from fun q => q.elim a b)]
  by_cases c : x = 42
  · rw [if_pos c, if_pos (Or.inl c)]; rfl
  by_cases e : x = 47
  · rw [if_neg c, if_pos e, if_pos (Or.inr (Or.inl e))]; rfl
  by_cases f : x = 37
  · rw [if_neg c, if_neg e, if_pos f, if_pos (Or.inr (Or.inr f))]; rfl
  rw [if_neg c, if_neg e, if_neg f, if_neg (fun q => q.elim c (fun q => q.elim e f))]; rfl
theorem lvO_le (x : Int32) : 1 ≤ lvO x ∧ lvO x ≤ 3 := by
  unfold lvO
  by_cases a : x = 43 ∨ x = 45
  · rw [if_pos a]; omega
  · rw [if_neg a]
    by_cases c : x = 42 ∨ x = 47 ∨ x = 37
    · rw [if_pos c]; omega
    · rw [if_neg c]; omega
theorem maxI {l : Nat} (hl : l ≤ 3) : (if (1 : Int32) ≤ nI l then nI l else 1) = nI (max l 1) := by
  by_cases h : 1 ≤ l
  · rw [if_pos (show (1 : Int32) ≤ nI l from nI_le (a := 1) h (by omega)), Nat.max_eq_left h]
  · have : l = 0 := by omega
    subst this
    rfl
/-- an operator that waits is taken off -/
theorem m1Q_two {w2 w3 w4 w5 : Int32} (h : MR tx n b s k o (W ++ [(3, w2, w3, w4, w5)]) os ks) (hl : W.length < 64) (ho : os.length < 4990) (hq : l ≤ 3) (hv : max l 1 ≤ lvO w2) (hn : ¬ (l = 1 ∧ lvO w2 = 1)) : ∃ s', (∀ m q, m1Q (D + 1) m (q + 1) l s = m1Q (D + 1) m q l s') ∧ MR tx n b s' k o W (os ++ [(9, w3, w2, 0, 0)]) ks ∧ offE b s s' ∧ s'.1 97 77 = 0 := by
  have t := h.top
  have L := lvO_le w2
  have a1 := h.pop
  obtain ⟨s3, e3, a3, r3, f3⟩ := m_order (d := D) a1 ho 9 w3 w2 0
  have a4 := a3.w97 (j := 77) (v := 0) (by omega)
  refine ⟨_, fun m q => ?_, a4, (w97_off (by omega)).tr (r3.tr (w97_off (by omega))), ?_⟩
  · have tail : b_291_178 (mjF (D + 1)) (L_291_118 (mjF (D + 1)) q) 97 (nI l) (mjW0 s) = L_291_118 (mjF (D + 1)) q 97 (nI l) (mjW0 (uI s3 97 (upd (s3.1 97) 77 0))) := by
      unfold b_291_178
      rw [xg_97_76, t.2, pk1, xp_97_76, xg_97_74, xg_97_76, uI_same, up_same, xa_153, if_pos (mj_in_nI hl (by decide)), nI_clamp (by omega), uI_ne _ _ _ _ (by decide), t.1.2.2.1, xg_97_73, xg_97_76, uI_same, up_same, xa_152, if_pos (mj_in_nI hl (by decide)), nI_clamp (by omega), uI_ne _ _ _ _ (by decide), t.1.2.1, xV_97, e3, bN_s, xp_97_77]
    unfold m1Q
    rw [L118_S]
    unfold b_291_118
    rw [xg_97_72, xg_97_76, t.2, pk1, xa_151, if_pos (mj_in_nI hl (by decide)), nI_clamp (by omega), t.1.1, if_pos rfl, xg_97_73, xg_97_76, t.2, pk1, xa_152, if_pos (mj_in_nI hl (by decide)), nI_clamp (by omega), t.1.2.1]
    rw [show ((3 : Int32), w2, w3, w4, w5).2.1 = w2 from rfl, v_lvO, bI_s, q_max, bI_s, maxI hq, if_neg (nI_nlt (a := lvO w2) hv (by omega))]
    by_cases l1 : l = 1
    · subst l1
      have n1 : ¬ lvO w2 = 1 := fun e => hn ⟨rfl, e⟩
      rw [if_pos (show nI 1 = 1 from rfl), xg_97_73, xg_97_76, t.2, pk1, xa_152, if_pos (mj_in_nI hl (by decide)), nI_clamp (by omega), t.1.2.1, show ((3 : Int32), w2, w3, w4, w5).2.1 = w2 from rfl, v_lvO, bI_s, if_neg (show ¬ nI (lvO w2) = 1 from fun e => n1 ((nI_eq (a := lvO w2) (b := 1) (by omega) (by omega)).mp e)), tail]
    · rw [if_neg (show ¬ nI l = 1 from fun e => l1 ((nI_eq (a := l) (b := 1) (by omega) (by omega)).mp e)), tail]
  · rw [uI_same, up_same]
/-- nothing more is taken off -/
theorem m1Q_go {f : WF} (h : MR tx n b s k o (W ++ [f]) os ks) (hl : W.length < 64) (hq : l ≤ 3) (hn : ¬ f.1 = 3 ∨ lvO f.2.1 < max l 1 ∨ (l = 1 ∧ lvO f.2.1 = 1)) : m1Q (D + 1) m (q + 1) l s = bI (b_291_221 (mjF (D + 1)) 97 (nI l) (mjW0 s)) (fun v hp => L_287_18 (mjF (D + 2)) m 97 v hp) := by
  have t := h.top
  have L := lvO_le f.2.1
  have e : b_291_118 (mjF (D + 1)) (L_291_118 (mjF (D + 1)) q) 97 (nI l) (mjW0 s) = b_291_221 (mjF (D + 1)) 97 (nI l) (mjW0 s) := by
    unfold b_291_118
    rw [xg_97_72, xg_97_76, t.2, pk1, xa_151, if_pos (mj_in_nI hl (by decide)), nI_clamp (by omega), t.1.1]
    by_cases e3 : f.1 = 3
    · rw [if_pos e3, xg_97_73, xg_97_76, t.2, pk1, xa_152, if_pos (mj_in_nI hl (by decide)), nI_clamp (by omega), t.1.2.1, v_lvO, bI_s, q_max, bI_s, maxI hq]
      by_cases lt : lvO f.2.1 < max l 1
      · rw [if_pos (nI_lt lt (by omega))]
      · have c := (hn.resolve_left (fun q => q e3)).resolve_left lt
        rw [if_neg (nI_nlt (by omega) (by omega)), if_pos (show nI l = 1 by rw [c.1]; rfl), xg_97_73, xg_97_76, t.2, pk1, xa_152, if_pos (mj_in_nI hl (by decide)), nI_clamp (by omega), t.1.2.1, v_lvO, bI_s, if_pos (show nI (lvO f.2.1) = 1 by rw [c.2]; rfl)]
    · rw [if_neg e3]
  unfold m1Q
  rw [L118_S, e]
/-- an operator's sign is taken -/
theorem m1Q_push {f : WF} (h : MR tx n b s k o (W ++ [f]) os ks) (hl : W.length < 62) (hlv : lvl (mTT tx n k).1 = l) (h0 : 1 ≤ l) (hn : ¬ f.1 = 3 ∨ lvO f.2.1 < l) : ∃ s' x, (∀ m q, m1Q (D + 4) m (q + 1) l s = lE (D + 4) m 1 s') ∧ MR tx n b s' (k + 1) o (W ++ [f] ++ [(3, nbr (mTT tx n k).1 0, (mTT tx n k).2.1, 0, x)]) os ks ∧ offE b s s' ∧ s'.1 97 77 = s.1 97 77 := by
  have t := h.top
  have A := h.at
  have hq : l ≤ 3 := by
    rw [← hlv]
    unfold lvl
    by_cases a1 : isPro (mTT tx n k).1 = true
    · rw [if_pos a1]; omega
    · rw [if_neg a1]
      by_cases a2 : isSum (mTT tx n k).1 = true
      · rw [if_pos a2]; omega
      · rw [if_neg a2]
        by_cases a3 : isCmp (mTT tx n k).1 = true
        · rw [if_pos a3]; omega
        · rw [if_neg a3]; omega
  have L := lvO_le f.2.1
  have h1 : ¬ (mTT tx n k).1 = 1 := fun e => by rw [e] at hlv; have : lvl 1 = 0 := (by decide); omega
  have h4 : ¬ (mTT tx n k).1 = 4 := fun e => by rw [e] at hlv; have : lvl 4 = 0 := (by decide); omega
  have s4 : srt (mTT tx n k).1 = 4 := by
    have g : KL.all (fun K => decide (lvl K = 0) || decide (srt K = 4)) = true := by decide +kernel
    have g' := List.all_eq_true.mp g _ A.1
    simp only [Bool.or_eq_true, decide_eq_true_eq] at g'
    exact g'.resolve_left (by omega)
  obtain ⟨s2, x, e2, a2, r2, f2⟩ := m_waits (d := D + 3) h (by rw [List.length_append]; show W.length + 1 < 64; omega) 3 (nbr (mTT tx n k).1 0) (mTT tx n k).2.1 0
  obtain ⟨s3, e3, a3, r3, f3⟩ := m_next (d := D + 1) a2 h1
  refine ⟨s3, x, fun m q => ?_, a3, r2.tr r3, f3.trans f2⟩
  have e69 : b_291_269 (mjF (D + 4)) 97 (mjW0 s) = some (some (.int 1), mjW0 s3) := by
    unfold b_291_269
    rw [xg_97_6, A.2.2.2.1 (Or.inr (Or.inl s4)), nbr_0 h4, xg_97_4, A.2.2.1, xV_97, e2, bN_s, xV_97, e3, bN_s]
  rw [m1Q_go (D := D + 3) h (by omega) hq (by
    rcases hn with hn | hn
    · exact Or.inl hn
    · exact Or.inr (Or.inl (by omega)))]
  unfold b_291_221 lE
  rw [if_neg (nI_nle (by omega) (by omega)), xg_97_72, xg_97_76, t.2, pk1, xa_151, if_pos (mj_in_nI (by omega) (by decide)), nI_clamp (by omega), t.1.1]
  by_cases e3' : f.1 = 3
  · have lt := hn.resolve_left (fun q => q e3')
    rw [if_pos e3', xg_97_73, xg_97_76, t.2, pk1, xa_152, if_pos (mj_in_nI (by omega) (by decide)), nI_clamp (by omega), t.1.2.1, v_lvO, bI_s]
    by_cases c1 : nI (lvO f.2.1) = 1
    · have nl : ¬ nI l = 1 := fun e => by
        have := (nI_eq (a := l) (b := 1) (by omega) (by omega)).mp e
        omega
      rw [if_pos c1, if_neg nl, e69, bI_s]
    · rw [if_neg c1, e69, bI_s]
  · rw [if_neg e3', e69, bI_s]
/-- a second comparison -/
theorem m1Q_cmp {w2 w3 w4 w5 : Int32} (h : MR tx n b s k o (W ++ [(3, w2, w3, w4, w5)]) os ks) (hl : W.length < 64) (hv : lvO w2 = 1) : m1Q (D + 2) (m + 1) (q + 1) 1 s = some (none, mjW0 (bS s (nI (F2 (mTT tx n) k).1) ((mTT tx n) (F2 (mTT tx n) k).2).2.1)) := by
  have t := h.top
  rw [m1Q_go (D := D + 1) h hl (by omega) (Or.inr (Or.inr ⟨rfl, hv⟩))]
  unfold b_291_221
  rw [if_neg (show ¬ nI 1 ≤ 0 by decide), xg_97_72, xg_97_76, t.2, pk1, xa_151, if_pos (mj_in_nI hl (by decide)), nI_clamp (by omega), t.1.1, if_pos rfl, xg_97_73, xg_97_76, t.2, pk1, xa_152, if_pos (mj_in_nI hl (by decide)), nI_clamp (by omega), t.1.2.1, show ((3 : Int32), w2, w3, w4, w5).2.1 = w2 from rfl, v_lvO, bI_s, hv, if_pos (show nI 1 = 1 from rfl), if_pos (show nI 1 = 1 from rfl), xV_97, m_wrong h, bN_s, bI_s]
  have z := lE_z (D := D + 2) (m := m) (m_wz h) 0
  exact z
end MJ74
