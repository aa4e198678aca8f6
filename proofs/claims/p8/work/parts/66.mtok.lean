/-! ===== the reference at a token: its small questions ===== -/
/-- the tokens of a text, for both sides -/
def mTT (tx : Nat → Int32) (n : Nat) : TT := fun k => ((tD tx n k).1, nI (tS tx n k), lN (rN gM (tD tx n k).2.1), (tD tx n k).2.2.1)
def KL : List Int32 := [0, 1, 2, 3, 4, 5, 6, 7, 8, 9, 10, 11, 12, 13, 14, 15, 16, 17, 18, 19, 20, 200, 201, 37, 40, 41, 42, 43, 44, 45, 46, 47, 59, 60, 61, 91, 93, 123, 125]
theorem KL_w : (List.range 16).all (fun j => decide (nI (5 + j) ∈ KL)) = true := by decide +kernel
theorem KL_s : sgM.all (fun c => decide (c ∈ KL)) = true := by decide +kernel
theorem k_in {tx : Nat → Int32} {n : Nat} (hb : ∀ i, i < n → byR (tx i)) (k : Nat) : (mTT tx n k).1 ∈ KL := by
  show (tD tx n k).1 ∈ KL
  unfold tD
  by_cases h : tS tx n k < n
  · rw [if_pos h]
    rcases t1_kind h hb with ⟨_, g, _⟩ | ⟨_, g⟩
    · rcases g with g | g | g | ⟨j, hj, g⟩
      · rw [g]; decide
      · rw [g]; decide
      · rw [g]; decide
      · rw [g]
        have := List.all_eq_true.mp KL_w j (List.mem_range.mpr hj)
        simpa using this
    · rcases g with g | g | g | g | g
      · rw [g]; decide
      · rw [g]; decide
      · rw [g]; decide
      · rw [g]; decide
      · have := List.all_eq_true.mp KL_s _ g
        simpa using this
  · rw [if_neg h]; exact (show (0 : Int32) ∈ KL by decide)
theorem KL_sign : KL.all (fun K => sgM.all (fun c => decide ((srt K = 4 ∧ nbr K 0 = c) ↔ K = c) && (decide (¬ srt K = 4) || decide (¬ K = 4)))) = true := by decide +kernel
theorem KL_word : KL.all (fun K => (List.range 16).all (fun w => decide ((srt K = 5 ∧ nbr K 0 = nI (w + 1)) ↔ K = nI (w + 5)) && (decide (¬ srt K = 5) || decide (¬ K = 4)))) = true := by decide +kernel
theorem nbr_0 {K v : Int32} (h : ¬ K = 4) : nbr K v = nbr K 0 := by
  unfold nbr
  rw [if_neg h, if_neg h]
/-- at token k, over T -/
def AT (T : TT) (k : Nat) (s : mjSt3) : Prop := (T k).1 ∈ KL ∧ s.1 97 3 = srt (T k).1 ∧ s.1 97 4 = (T k).2.1 ∧ (srt (T k).1 = 3 ∨ srt (T k).1 = 4 ∨ srt (T k).1 = 5 → s.1 97 6 = nbr (T k).1 (T k).2.2.2) ∧ ((T k).1 = 2 ∨ (T k).1 = 3 → s.2.1 97 7 = (T k).2.2.1)
theorem srt_1 {K : Int32} (h : srt K = 3 ∨ srt K = 4 ∨ srt K = 5) : ¬ K = 1 := fun e => by rw [e] at h; exact absurd h (by decide)
theorem srt_2 {K : Int32} (h : K = 2 ∨ K = 3) : (srt K = 1 ∨ srt K = 2) ∧ ¬ K = 1 := by
  rcases h with h | h <;> rw [h] <;> decide
theorem MT.at {tx : Nat → Int32} {n k : Nat} {s : mjSt3} (hb : ∀ i, i < n → byR (tx i)) (h : MT tx n k s) : AT (mTT tx n) k s :=
  ⟨k_in hb k, h.1, h.2.1, fun q => (h.2.2 (srt_1 q)).2.1 q, fun q => (h.2.2 (srt_2 q).2).2.2 (srt_2 q).1⟩
section MJ66
variable {T : TT} {d k : Nat} {s : mjSt3}
theorem v_sign (h : AT T k s) {c : Int32} (hc : c ∈ sgM) : mjF (d + 1) 271 [.ref 97, .int c] (mjW0 s) = some (some (.int (if (T k).1 = c then 1 else 0)), mjW0 s) := by
  have g := List.all_eq_true.mp (List.all_eq_true.mp KL_sign _ h.1) c hc
  simp only [Bool.and_eq_true, Bool.or_eq_true, decide_eq_true_eq] at g
  rw [e_271]
  unfold f_271 b_271_0 b_271_20
  rw [xg_97_3, h.2.1]
  by_cases e : srt (T k).1 = 4
  · have n4 := g.2.resolve_left (fun q => q e)
    rw [if_pos e, xg_97_6, h.2.2.2.1 (Or.inr (Or.inl e)), nbr_0 n4]
    by_cases e2 : nbr (T k).1 0 = c
    · rw [if_pos e2, if_pos (g.1.mp ⟨e, e2⟩)]
    · rw [if_neg e2, if_neg (fun q => e2 (g.1.mpr q).2)]
  · rw [if_neg e, if_neg (fun q => e (g.1.mpr q).1)]
theorem v_word (h : AT T k s) {w : Nat} (hw : w < 16) : mjF (d + 1) 266 [.ref 97, .int (nI (w + 1))] (mjW0 s) = some (some (.int (if (T k).1 = nI (w + 5) then 1 else 0)), mjW0 s) := by
  have g := List.all_eq_true.mp (List.all_eq_true.mp KL_word _ h.1) w (List.mem_range.mpr hw)
  simp only [Bool.and_eq_true, Bool.or_eq_true, decide_eq_true_eq] at g
  rw [e_266]
  unfold f_266 b_266_0 b_266_20
  rw [xg_97_3, h.2.1]
  by_cases e : srt (T k).1 = 5
  · have n4 := g.2.resolve_left (fun q => q e)
    rw [if_pos e, xg_97_6, h.2.2.2.1 (Or.inr (Or.inr e)), nbr_0 n4]
    by_cases e2 : nbr (T k).1 0 = nI (w + 1)
    · rw [if_pos e2, if_pos (g.1.mp ⟨e, e2⟩)]
    · rw [if_neg e2, if_neg (fun q => e2 (g.1.mpr q).2)]
  · rw [if_neg e, if_neg (fun q => e (g.1.mpr q).1)]
theorem KL_srt : KL.all (fun K => decide (srt K = 1 ↔ K = 2) && decide (srt K = 2 ↔ K = 3) && decide (srt K = 3 ↔ K = 4) && decide (srt K = 6 ↔ K = 1) && decide (srt K = 0 ↔ K = 0)) = true := by decide +kernel
theorem v_srt (h : AT T k s) : (s.1 97 3 = 1 ↔ (T k).1 = 2) ∧ (s.1 97 3 = 2 ↔ (T k).1 = 3) ∧ (s.1 97 3 = 3 ↔ (T k).1 = 4) ∧ (s.1 97 3 = 6 ↔ (T k).1 = 1) ∧ (s.1 97 3 = 0 ↔ (T k).1 = 0) := by
  have g := List.all_eq_true.mp KL_srt _ h.1
  simp only [Bool.and_eq_true, decide_eq_true_eq] at g
  rw [h.2.1]
  exact ⟨g.1.1.1.1, g.1.1.1.2, g.1.1.2, g.1.2, g.2⟩
/-- a FAULT is told, if none was -/
def bS (s : mjSt3) (a b : Int32) : mjSt3 := uI s 97 (upd (upd (s.1 97) 61 a) 62 b)
theorem v_fail (h : s.1 97 61 = 0) (a b : Int32) : mjF (d + 1) 268 [.ref 97, .int a, .int b] (mjW0 s) = some (none, mjW0 (bS s a b)) := by
  rw [e_268]
  unfold f_268 b_268_0
  rw [xg_97_61, h, if_pos (show (0 : Int32) ≤ 0 by decide), xp_97_61, xp_97_62, uI_same, uI_uI]
  rfl
theorem bS_at (a b : Int32) : (bS s a b).1 97 61 = a ∧ (bS s a b).1 97 62 = b ∧ (∀ j, ¬ j = 61 → ¬ j = 62 → (bS s a b).1 97 j = s.1 97 j) ∧ (∀ h, ¬ h = 97 → (bS s a b).1 h = s.1 h) ∧ (bS s a b).2 = s.2 := by
  unfold bS
  refine ⟨?_, ?_, fun j h1 h2 => ?_, fun h e => uI_ne _ _ _ _ e, rfl⟩
  · rw [uI_same]; rfl
  · rw [uI_same]; rfl
  · rw [uI_same, upd_g, if_neg h2, upd_g, if_neg h1]
theorem v_wrong (h : AT T k s) (hb : s.1 97 61 = 0) : mjF (d + 2) 269 [.ref 97] (mjW0 s) = some (none, mjW0 (bS s (nI (F2 T k).1) (T (F2 T k).2).2.1)) := by
  have g := v_srt h
  rw [e_269]
  unfold f_269 b_269_0 b_269_15
  rw [xg_97_3, F2_1]
  by_cases e : (T k).1 = 1
  · rw [if_pos (g.2.2.2.1.mpr e), xg_97_4, xV_97, v_fail hb, bN_s, h.2.2.1, if_pos e]; rfl
  · rw [if_neg (fun q => e (g.2.2.2.1.mp q)), xg_97_4, xV_97, v_fail hb, bN_s, h.2.2.1, if_neg e]; rfl
theorem v_type (h : AT T k s) : mjF (d + 2) 276 [.ref 97] (mjW0 s) = some (some (.int (if tyS (T k).1 = true then 1 else 0)), mjW0 s) := by
  have g := v_srt h
  have w := v_word (d := d) h (w := 5) (by decide)
  rw [e_276]
  unfold f_276 b_276_0 b_276_17 tyS
  rw [dec_1, xV_97, show mjF (d + 1) 266 [.ref 97, .int 6] (mjW0 s) = _ from w, bI_s, i01]
  by_cases e : (T k).1 = 10
  · rw [if_pos (show (T k).1 = nI (5 + 5) from e), if_pos (Or.inl e)]
  · rw [if_neg (show ¬ (T k).1 = nI (5 + 5) from e), xg_97_3]
    by_cases e2 : (T k).1 = 2
    · rw [if_pos (g.1.mpr e2), if_pos (Or.inr e2)]
    · rw [if_neg (fun q => e2 (g.1.mp q)), if_neg (fun q => q.elim e e2)]
theorem v_begins (h : AT T k s) : mjF (d + 2) 290 [.ref 97] (mjW0 s) = some (some (.int (if isVal (T k).1 = true then 1 else 0)), mjW0 s) := by
  have g := v_srt h
  have w7 : mjF (d + 1) 266 [.ref 97, .int 7] (mjW0 s) = _ := v_word (d := d) h (w := 6) (by decide)
  have w8 : mjF (d + 1) 266 [.ref 97, .int 8] (mjW0 s) = _ := v_word (d := d) h (w := 7) (by decide)
  have w10 : mjF (d + 1) 266 [.ref 97, .int 10] (mjW0 s) = _ := v_word (d := d) h (w := 9) (by decide)
  rw [e_290]
  unfold f_290 b_290_0 b_290_61 isVal
  rw [dec_1, xg_97_3]
  by_cases e4 : (T k).1 = 4
  · rw [if_pos (g.2.2.1.mpr e4), if_pos (Or.inr (Or.inl e4))]
  rw [if_neg (fun q => e4 (g.2.2.1.mp q)), xg_97_3]
  by_cases e3 : (T k).1 = 3
  · rw [if_pos (g.2.1.mpr e3), if_pos (Or.inl e3)]
  rw [if_neg (fun q => e3 (g.2.1.mp q)), xV_97, w7, bI_s, i01]
  by_cases e11 : (T k).1 = 11
  · rw [if_pos (show (T k).1 = nI (6 + 5) from e11), if_pos (Or.inr (Or.inr (Or.inl e11)))]
  rw [if_neg (show ¬ (T k).1 = nI (6 + 5) from e11), xV_97, w8, bI_s, i01]
  by_cases e12 : (T k).1 = 12
  · rw [if_pos (show (T k).1 = nI (7 + 5) from e12), if_pos (Or.inr (Or.inr (Or.inr (Or.inl e12))))]
  rw [if_neg (show ¬ (T k).1 = nI (7 + 5) from e12), xV_97, w10, bI_s, i01]
  by_cases e14 : (T k).1 = 14
  · rw [if_pos (show (T k).1 = nI (9 + 5) from e14), if_pos (Or.inr (Or.inr (Or.inr (Or.inr (Or.inl e14)))))]
  rw [if_neg (show ¬ (T k).1 = nI (9 + 5) from e14), xV_97, v_sign h (by decide), bI_s, i01]
  by_cases e40 : (T k).1 = 40
  · rw [if_pos e40, if_pos (Or.inr (Or.inr (Or.inr (Or.inr (Or.inr (Or.inl e40))))))]
  rw [if_neg e40, xV_97, v_sign h (by decide), bI_s, i01]
  by_cases e45 : (T k).1 = 45
  · rw [if_pos e45, if_pos (Or.inr (Or.inr (Or.inr (Or.inr (Or.inr (Or.inr e45))))))]
  rw [if_neg e45, if_neg (fun q => q.elim e3 (fun q => q.elim e4 (fun q => q.elim e11 (fun q => q.elim e12 (fun q => q.elim e14 (fun q => q.elim e40 e45))))))]
/-- the rank of an operator's sign: 3, 2, 1, or 0 -/
def lvl (K : Int32) : Nat := if isPro K = true then 3 else if isSum K = true then 2 else if isCmp K = true then 1 else 0
theorem KL_lvl : KL.all (fun K => decide ((if srt K = 4 then (if nbr K 0 = 37 then (3 : Int32) else if nbr K 0 = 42 then 3 else if nbr K 0 = 43 then 2 else if nbr K 0 = 45 then 2 else if nbr K 0 = 47 then 3 else if nbr K 0 = 60 then 1 else if nbr K 0 = 257 then 1 else if nbr K 0 = 258 then 1 else 0) else 0) = nI (lvl K)) && (decide (¬ srt K = 4) || decide (¬ K = 4))) = true := by decide +kernel
theorem v_level (h : AT T k s) : mjF (d + 1) 295 [.ref 97] (mjW0 s) = some (some (.int (nI (lvl (T k).1))), mjW0 s) := by
  have g := List.all_eq_true.mp KL_lvl _ h.1
  simp only [Bool.and_eq_true, Bool.or_eq_true, decide_eq_true_eq] at g
  rw [← g.1, e_295]
  unfold f_295 b_295_0 b_295_92 b_295_90 b_295_88
  rw [xg_97_3, h.2.1]
  by_cases e : srt (T k).1 = 4
  · have n4 := g.2.resolve_left (fun q => q e)
    rw [if_pos e, if_pos e, xg_97_6, h.2.2.2.1 (Or.inr (Or.inl e)), nbr_0 n4]
    generalize nbr (T k).1 0 = x
    by_cases a1 : x = 37
    · rw [if_pos a1, if_pos a1]
    rw [if_neg a1, if_neg a1]
    by_cases a2 : x = 42
    · rw [if_pos a2, if_pos a2]
    rw [if_neg a2, if_neg a2]
    by_cases a3 : x = 43
    · rw [if_pos a3, if_pos a3]
    rw [if_neg a3, if_neg a3]
    by_cases a4 : x = 45
    · rw [if_pos a4, if_pos a4]
    rw [if_neg a4, if_neg a4]
    by_cases a5 : x = 47
    · rw [if_pos a5, if_pos a5]
    rw [if_neg a5, if_neg a5]
    by_cases a6 : x = 60
    · rw [if_pos a6, if_pos a6]
    rw [if_neg a6, if_neg a6]
    by_cases a7 : x = 257
    · rw [if_pos a7, if_pos a7]
    rw [if_neg a7, if_neg a7]
    by_cases a8 : x = 258
    · rw [if_pos a8, if_pos a8]
    rw [if_neg a8, if_neg a8]
  · rw [if_neg e, if_neg e]
end MJ66
