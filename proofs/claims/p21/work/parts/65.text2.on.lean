section
/-! ===== readText ===== -/
theorem uR_g (s : mjSt3) (h : Nat) (f : Nat → Nat) (h' : Nat) (e : ¬ h' = h) : (uR s h f).2.2 h' = s.2.2 h' := uR_ne s h h' f e
/-- the class's rows behind a TEXT that is read: T its tokens, t what was read -/
def RD (T : TT) (N q : Nat) (s : mjSt3) (t : PT) (ag : Nat → Int32) : Prop := TH T N s ∧ RQ q s ∧ CI T q s t.1 ∧ t.1.length ≤ 16 ∧ (∀ (c : Nat) (E : CD), t.1[c]? = some E → E.2.length ≤ 24) ∧ s.1 70 384 = nI t.2.1.1 ∧ s.1 (q + 22) 384 = nI t.2.1.2 ∧ s.1 63 = rAg t.2.2.2.2.1 ag ∧ s.1 58 7 = 0 ∧ ∃ c, c ≤ N ∧ s.1 58 6 = nI c
section MJ65
variable {T : TT} {N q : Nat} {s : mjSt3}
theorem ci_cg {L : List CD} {s s' : mjSt3} (hC : CI T q s L) (hB : ∀ (c : Nat) (E : CD), L[c]? = some E → E.2.length ≤ 24) (hl : L.length ≤ 16) (h1 : ∀ h j, j < 384 → (q ≤ h ∧ h ≤ q + 27) ∨ (65 ≤ h ∧ h ≤ 70) → s'.1 h j = s.1 h j) (h2 : s'.2.1 (q + 15) = s.2.1 (q + 15)) (h3 : s'.2.1 62 = s.2.1 62) : CI T q s' L := by
  have hb := CI.bound hB
  obtain ⟨a1, a2, ⟨a3, a4⟩, a5⟩ := hC
  refine ⟨?_, ?_, ⟨fun j g1 g2 => ?_, fun j g1 g2 => ?_⟩, fun c D hc => ?_⟩
  · rw [h1 q 0 (by omega) (by omega), a1]
  · rw [h1 (q + 14) 0 (by omega) (by omega), a2]
  · rw [h1 _ j (by omega) (by omega), h1 _ j (by omega) (by omega), h1 _ j (by omega) (by omega), h1 _ j (by omega) (by omega), h1 _ j (by omega) (by omega)]; exact a3 j g1 g2
  · rw [h1 _ j g2 (by omega), h1 _ j g2 (by omega)]; exact a4 j g1 g2
  · have hc' := (List.getElem?_eq_some_iff.mp hc).1
    have hm := nMem_take hc
    obtain ⟨⟨b1, b2, b3, b4, b5, b6, b7⟩, e1, e2, e3, e4⟩ := a5 c D hc
    refine ⟨⟨?_, ?_, ?_, ?_, ?_, ?_, ?_⟩, ?_, ?_, ?_, fun j md hj => ?_⟩
    · rw [h1 _ c (by omega) (by omega), b1]
    · rw [h1 _ c (by omega) (by omega), b2]
    · rw [h1 _ c (by omega) (by omega), b3]
    · rw [h1 _ c (by omega) (by omega), b4]
    · rw [h1 _ c (by omega) (by omega), b5]
    · rw [h1 _ c (by omega) (by omega), b6]
    · rw [h1 _ c (by omega) (by omega)]; exact b7
    · rw [h1 _ c (by omega) (by omega), e1]
    · rw [h1 _ c (by omega) (by omega), e2]
    · rw [h1 _ c (by omega) (by omega), e3]
    · have hj' := (List.getElem?_eq_some_iff.mp hj).1
      obtain ⟨m1, m2, m3, m4, m5, m6, m7, m8⟩ := e4 j md hj
      refine ⟨?_, ?_, ?_, ?_, ?_, ?_, ?_, fun t => ⟨?_, ?_⟩⟩
      · rw [h1 _ _ (by omega) (by omega), m1]
      · rw [h1 _ _ (by omega) (by omega), m2]
      · rw [h1 _ _ (by omega) (by omega), m3]
      · rw [h2, h3, m4]
      · rw [h1 _ _ (by omega) (by omega), m5]
      · rw [h1 _ _ (by omega) (by omega), m6]
      · rw [h1 _ _ (by omega) (by omega), m7]
      · rw [h1 _ _ (by omega) (by omega), (m8 t).1]
      · rw [h1 _ _ (by omega) (by omega), (m8 t).2]
theorem th_eR {x : RS} (h : TH T N s) : TH T N (eR s x) := by
  obtain ⟨a, b, c, d⟩ := h
  exact ⟨eR_5.trans a, b, c, fun k hk => by rw [eR_60, eR_61]; exact d k hk⟩
/-- readText on program q, whose rows are clear -/
theorem x_readText {D kq : Nat} (hD : 197 ≤ D) (hq : isP q) (hT : TH T N s) (h6 : s.1 58 6 = 0) (h7 : s.1 58 7 = 0) (h0 : s.1 q 0 = 0) (h14 : s.1 (q + 14) 0 = 0) (hF : Fr q 0 0 s) : match pText T (N + 1) kq with
    | .inl e => (e.1 = 1 ∨ e.1 = 2 ∨ e.1 = 3) ∧ ∃ s', mjF (D + 1) 126 [.ref 64, .ref q] (mjW0 s) = some (none, mjW0 s') ∧ s'.1 58 7 = nI e.1 ∧ s'.1 58 8 = (T e.2).2.1 ∧ offL q s s'
    | .inr t => ∃ s', mjF (D + 1) 126 [.ref 64, .ref q] (mjW0 s) = some (none, mjW0 s') ∧ s'.1 58 8 = s.1 58 8 ∧ RD T N q s' t (s.1 63) ∧ offL q s s' ∧ (∀ h, h = q + 16 ∨ h = q + 18 ∨ h = q + 20 → s'.1 h 384 = s.1 h 384) := by
  have hq' : q = 2 ∨ q = 30 := hq
  let z : mjSt3 := uR (uR s 64 (updR (s.2.2 64) 1 q)) 64 (updR ((uR s 64 (updR (s.2.2 64) 1 q)).2.2 64) 2 (q + 14))
  have hz : z = uR (uR s 64 (updR (s.2.2 64) 1 q)) 64 (updR ((uR s 64 (updR (s.2.2 64) 1 q)).2.2 64) 2 (q + 14)) := rfl
  have z1 : z.1 = s.1 := rfl
  have z2 : z.2.1 = s.2.1 := rfl
  have hTz : TH T N z := hT
  have hQz : RQ q z := by
    refine ⟨hq, ?_, ?_⟩
    · rw [hz, uR_same, uR_same]; rfl
    · rw [hz, uR_same]; rfl
  have hLz : offL q s z := ⟨fun _ _ _ => rfl, fun _ _ _ => rfl, fun h a _ _ => by rw [hz, uR_g _ _ _ _ a, uR_g _ _ _ _ a]⟩
  have hCz : CI T q z [] := ⟨h0, h14, hF, fun c D hc => by simp at hc⟩
  have e0 : mjF (D + 1) 126 [.ref 64, .ref q] (mjW0 s) = L_126_20 (mjF D) mjN 64 (nI 0) (mjW0 (eR z (0, 0, s.1 58 8, nI 0, s.1 64 10, rAg [] (s.1 63)))) := by
    rw [e_126]
    unfold f_126 b_126_0
    rw [xp_64_1, yg_14 hq, xp_64_2, xp_64_9, ← hz]
    have es : eR z (0, s.1 58 7, s.1 58 8, s.1 64 9, s.1 64 10, s.1 63) = z := eR_self (s := z) (c := 0) h6
    have e2 : uI z 64 (upd (z.1 64) 9 0) = eR z (0, 0, s.1 58 8, nI 0, s.1 64 10, s.1 63) := by
      have w := wR_o (s := z) (x := (0, s.1 58 7, s.1 58 8, s.1 64 9, s.1 64 10, s.1 63)) 0
      rw [es] at w
      rw [w, h7]
      rfl
    rw [e2]
    rfl
  rw [e0]
  have k := x_cls (T := T) (N := N) (q := q) (kq := kq) (p := s.1 58 8) (ag := s.1 63) (D := D) hD 17 mjN (0, [], [], [], []) z (s.1 64 10) hTz hQz hCz (fun c E hc => by simp at hc) rfl (by show 0 ≤ 16; omega) (by unfold mjN; omega) (Nat.zero_le N)
  unfold pText
  cases hP : pClasses T (N + 1) kq 17 (0, [], [], [], []) with
  | inl e =>
    rw [hP] at k
    obtain ⟨he, s1, o1, v1, ag1, k, w⟩ := k
    exact ⟨he, _, k, eR_7, eR_8, eR_L (hLz.tr w)⟩
  | inr y =>
    rw [hP] at k
    obtain ⟨g1, g2, g3, s1, v1, k, g4, g5, g6, g7, g8⟩ := k
    have m := x_81 (p := s.1 58 8) (v := v1) (ag := rAg y.2.2.2.2 (s.1 63)) g4 g5 (D := D) (c := y.1) (kq := kq + y.2.2.1.length) (i0 := y.2.2.2.1.length) (by omega) g1
    have k' : L_126_20 (mjF D) mjN 64 (nI 0) (mjW0 (eR z (0, 0, s.1 58 8, nI 0, s.1 64 10, rAg [] (s.1 63)))) = b_126_81 (mjF D) 64 (mjW0 (eR s1 (y.1, 0, s.1 58 8, nI 0, v1, rAg y.2.2.2.2 (s.1 63)))) := k
    have bad : ∀ e : Nat × Nat, tbOK q s1 T N (b_126_81 (mjF D) 64 (mjW0 (eR s1 (y.1, 0, s.1 58 8, nI 0, v1, rAg y.2.2.2.2 (s.1 63))))) e → (e.1 = 1 ∨ e.1 = 2 ∨ e.1 = 3) ∧ ∃ s', L_126_20 (mjF D) mjN 64 (nI 0) (mjW0 (eR z (0, 0, s.1 58 8, nI 0, s.1 64 10, rAg [] (s.1 63)))) = some (none, mjW0 s') ∧ s'.1 58 7 = nI e.1 ∧ s'.1 58 8 = (T e.2).2.1 ∧ offL q s s' := by
      intro e hb
      obtain ⟨he, s2, o2, v2, ag2, k2, w⟩ := hb
      exact ⟨he, _, k'.trans k2, eR_7, eR_8, eR_L ((hLz.tr g7).tr w)⟩
    by_cases h9 : (T y.1).1 = 9
    · simp only [if_pos h9] at m ⊢
      cases hS : prS T (N + 1) 30 0 0 (y.1 + 1) 0 (kq + y.2.2.1.length) y.2.2.2.1.length with
      | inl e =>
        rw [hS] at m
        exact bad e m
      | inr b =>
        rw [hS] at m
        by_cases hz0 : (T b.1).1 = 0
        · simp only [if_pos hz0] at m ⊢
          obtain ⟨hb, m⟩ := m
          refine ⟨_, k'.trans m, eR_8, ⟨th_eR ((g4.w (by decide) (by decide) (by decide)).w (by omega) (by omega) (by omega)), g5, ?_, g2, g3, ?_, ?_, ?_, eR_7, b.1, hb, eR_6⟩, eR_L (((hLz.tr g7).tr (w70_L hq _)).tr (wq_L (by omega) _)), fun h hh => ?_⟩
          · refine ci_cg g6 g3 g2 (fun h j hj hh => ?_) rfl rfl
            rw [eR_q (by omega) (by omega) (by omega)]
            by_cases e22 : h = q + 22
            · rw [e22, uI_same, uI_ne _ _ _ _ (by omega)]
              exact if_neg (by omega)
            · rw [uI_ne _ _ _ _ e22]
              by_cases e70 : h = 70
              · rw [e70, uI_same]
                exact if_neg (by omega)
              · rw [uI_ne _ _ _ _ e70]
          · rw [eR_q (by omega) (by omega) (by omega), uI_ne _ _ _ _ (by omega), uI_same]
            exact if_pos rfl
          · rw [eR_q (by omega) (by omega) (by omega), uI_same]
            exact if_pos rfl
          · rw [eR_63, ← rAg_app]
          · rw [eR_q (by omega) (by omega) (by omega), uI_ne _ _ _ _ (by omega), uI_ne _ _ _ _ (by omega)]
            exact g8 h hh
        · simp only [if_neg hz0] at m ⊢
          exact bad _ m
    · simp only [if_neg h9] at m ⊢
      exact bad _ m
end MJ65
end
section
/-! ===== the reference at a token: its small questions ===== -/
/-- the tokens of a text, for both sides -/
def mTT (tx : Nat → Int32) (n : Nat) : TT := fun k => ((tD tx n k).1, nI (tS tx n k), lN (rN gM (tD tx n k).2.1), (tD tx n k).2.2.1)
def KL : List Int32 := [0, 1, 2, 3, 4, 5, 6, 7, 8, 9, 10, 11, 12, 13, 14, 15, 16, 17, 18, 19, 20, 200, 201, 37, 40, 41, 42, 43, 44, 45, 46, 47, 59, 60, 61, 91, 93, 123, 125]
theorem KL_w : (List.range 16).all (fun j => decide (nI (5 + j) ∈ KL)) = true := by decide +kernel
theorem KL_s : sgM.all (fun c => decide (c ∈ KL)) = true := by decide +kernel
theorem k_in {tx : Nat → Int32} {n : Nat} (hb : ∀ i, i < n → byR (tx i)) (k : Nat) : (mTT tx n k).1 ∈ KL := by
  show (tD tx n k).1 ∈ KL
  unfold tD
  by_cases h : tS tx n k < n
  · rw [if_pos h]
    rcases t1_kind h hb with ⟨_, g, _⟩ | ⟨_, g⟩
    · rcases g with g | g | g | ⟨j, hj, g⟩
      · rw [g]; decide
      · rw [g]; decide
      · rw [g]; decide
      · rw [g]
        have := List.all_eq_true.mp KL_w j (List.mem_range.mpr hj)
        simpa using this
    · rcases g with g | g | g | g | g
      · rw [g]; decide
      · rw [g]; decide
      · rw [g]; decide
      · rw [g]; decide
      · have := List.all_eq_true.mp KL_s _ g
        simpa using this
  · rw [if_neg h]; exact (show (0 : Int32) ∈ KL by decide)
theorem KL_sign : KL.all (fun K => sgM.all (fun c => decide ((srt K = 4 ∧ nbr K 0 = c) ↔ K = c) && (decide (¬ srt K = 4) || decide (¬ K = 4)))) = true := by decide +kernel
theorem KL_word : KL.all (fun K => (List.range 16).all (fun w => decide ((srt K = 5 ∧ nbr K 0 = nI (w + 1)) ↔ K = nI (w + 5)) && (decide (¬ srt K = 5) || decide (¬ K = 4)))) = true := by decide +kernel
theorem nbr_0 {K v : Int32} (h : ¬ K = 4) : nbr K v = nbr K 0 := by
  unfold nbr
  rw [if_neg h, if_neg h]
/-- at token k, over T -/
def AT (T : TT) (k : Nat) (s : mjSt3) : Prop := (T k).1 ∈ KL ∧ s.1 97 3 = srt (T k).1 ∧ s.1 97 4 = (T k).2.1 ∧ (srt (T k).1 = 3 ∨ srt (T k).1 = 4 ∨ srt (T k).1 = 5 → s.1 97 6 = nbr (T k).1 (T k).2.2.2) ∧ ((T k).1 = 2 ∨ (T k).1 = 3 → s.2.1 97 7 = (T k).2.2.1)
theorem srt_1 {K : Int32} (h : srt K = 3 ∨ srt K = 4 ∨ srt K = 5) : ¬ K = 1 := fun e => by rw [e] at h; exact absurd h (by decide)
theorem srt_2 {K : Int32} (h : K = 2 ∨ K = 3) : (srt K = 1 ∨ srt K = 2) ∧ ¬ K = 1 := by
  rcases h with h | h <;> rw [h] <;> decide
theorem MT.at {tx : Nat → Int32} {n k : Nat} {s : mjSt3} (hb : ∀ i, i < n → byR (tx i)) (h : MT tx n k s) : AT (mTT tx n) k s :=
  ⟨k_in hb k, h.1, h.2.1, fun q => (h.2.2 (srt_1 q)).2.1 q, fun q => (h.2.2 (srt_2 q).2).2.2 (srt_2 q).1⟩
section MJ66
variable {T : TT} {d k : Nat} {s : mjSt3}
theorem v_sign (h : AT T k s) {c : Int32} (hc : c ∈ sgM) : mjF (d + 1) 271 [.ref 97, .int c] (mjW0 s) = some (some (.int (if (T k).1 = c then 1 else 0)), mjW0 s) := by
  have g := List.all_eq_true.mp (List.all_eq_true.mp KL_sign _ h.1) c hc
  simp only [Bool.and_eq_true, Bool.or_eq_true, decide_eq_true_eq] at g
  rw [e_271]
  unfold f_271 b_271_0 b_271_20
  rw [xg_97_3, h.2.1]
  by_cases e : srt (T k).1 = 4
  · have n4 := g.2.resolve_left (fun q => q e)
    rw [if_pos e, xg_97_6, h.2.2.2.1 (Or.inr (Or.inl e)), nbr_0 n4]
    by_cases e2 : nbr (T k).1 0 = c
    · rw [if_pos e2, if_pos (g.1.mp ⟨e, e2⟩)]
    · rw [if_neg e2, if_neg (fun q => e2 (g.1.mpr q).2)]
  · rw [if_neg e, if_neg (fun q => e (g.1.mpr q).1)]
theorem v_word (h : AT T k s) {w : Nat} (hw : w < 16) : mjF (d + 1) 266 [.ref 97, .int (nI (w + 1))] (mjW0 s) = some (some (.int (if (T k).1 = nI (w + 5) then 1 else 0)), mjW0 s) := by
  have g := List.all_eq_true.mp (List.all_eq_true.mp KL_word _ h.1) w (List.mem_range.mpr hw)
  simp only [Bool.and_eq_true, Bool.or_eq_true, decide_eq_true_eq] at g
  rw [e_266]
  unfold f_266 b_266_0 b_266_20
  rw [xg_97_3, h.2.1]
  by_cases e : srt (T k).1 = 5
  · have n4 := g.2.resolve_left (fun q => q e)
    rw [if_pos e, xg_97_6, h.2.2.2.1 (Or.inr (Or.inr e)), nbr_0 n4]
    by_cases e2 : nbr (T k).1 0 = nI (w + 1)
    · rw [if_pos e2, if_pos (g.1.mp ⟨e, e2⟩)]
    · rw [if_neg e2, if_neg (fun q => e2 (g.1.mpr q).2)]
  · rw [if_neg e, if_neg (fun q => e (g.1.mpr q).1)]
theorem KL_srt : KL.all (fun K => decide (srt K = 1 ↔ K = 2) && decide (srt K = 2 ↔ K = 3) && decide (srt K = 3 ↔ K = 4) && decide (srt K = 6 ↔ K = 1) && decide (srt K = 0 ↔ K = 0)) = true := by decide +kernel
theorem v_srt (h : AT T k s) : (s.1 97 3 = 1 ↔ (T k).1 = 2) ∧ (s.1 97 3 = 2 ↔ (T k).1 = 3) ∧ (s.1 97 3 = 3 ↔ (T k).1 = 4) ∧ (s.1 97 3 = 6 ↔ (T k).1 = 1) ∧ (s.1 97 3 = 0 ↔ (T k).1 = 0) := by
  have g := List.all_eq_true.mp KL_srt _ h.1
  simp only [Bool.and_eq_true, decide_eq_true_eq] at g
  rw [h.2.1]
  exact ⟨g.1.1.1.1, g.1.1.1.2, g.1.1.2, g.1.2, g.2⟩
/-- a FAULT is told, if none was -/
def bS (s : mjSt3) (a b : Int32) : mjSt3 := uI s 97 (upd (upd (s.1 97) 61 a) 62 b)
theorem v_fail (h : s.1 97 61 = 0) (a b : Int32) : mjF (d + 1) 268 [.ref 97, .int a, .int b] (mjW0 s) = some (none, mjW0 (bS s a b)) := by
  rw [e_268]
  unfold f_268 b_268_0
  rw [xg_97_61, h, if_pos (show (0 : Int32) ≤ 0 by decide), xp_97_61, xp_97_62, uI_same, uI_uI]
  rfl
theorem bS_at (a b : Int32) : (bS s a b).1 97 61 = a ∧ (bS s a b).1 97 62 = b ∧ (∀ j, ¬ j = 61 → ¬ j = 62 → (bS s a b).1 97 j = s.1 97 j) ∧ (∀ h, ¬ h = 97 → (bS s a b).1 h = s.1 h) ∧ (bS s a b).2 = s.2 := by
  unfold bS
  refine ⟨?_, ?_, fun j h1 h2 => ?_, fun h e => uI_ne _ _ _ _ e, rfl⟩
  · rw [uI_same]; rfl
  · rw [uI_same]; rfl
  · rw [uI_same, upd_g, if_neg h2, upd_g, if_neg h1]
theorem v_wrong (h : AT T k s) (hb : s.1 97 61 = 0) : mjF (d + 2) 269 [.ref 97] (mjW0 s) = some (none, mjW0 (bS s (nI (F2 T k).1) (T (F2 T k).2).2.1)) := by
  have g := v_srt h
  rw [e_269]
  unfold f_269 b_269_0 b_269_15
  rw [xg_97_3, F2_1]
  by_cases e : (T k).1 = 1
  · rw [if_pos (g.2.2.2.1.mpr e), xg_97_4, xV_97, v_fail hb, bN_s, h.2.2.1, if_pos e]; rfl
  · rw [if_neg (fun q => e (g.2.2.2.1.mp q)), xg_97_4, xV_97, v_fail hb, bN_s, h.2.2.1, if_neg e]; rfl
theorem v_type (h : AT T k s) : mjF (d + 2) 276 [.ref 97] (mjW0 s) = some (some (.int (if tyS (T k).1 = true then 1 else 0)), mjW0 s) := by
  have g := v_srt h
  have w := v_word (d := d) h (w := 5) (by decide)
  rw [e_276]
  unfold f_276 b_276_0 b_276_17 tyS
  rw [dec_1, xV_97, show mjF (d + 1) 266 [.ref 97, .int 6] (mjW0 s) = _ from w, bI_s, i01]
  by_cases e : (T k).1 = 10
  · rw [if_pos (show (T k).1 = nI (5 + 5) from e), if_pos (Or.inl e)]
  · rw [if_neg (show ¬ (T k).1 = nI (5 + 5) from e), xg_97_3]
    by_cases e2 : (T k).1 = 2
    · rw [if_pos (g.1.mpr e2), if_pos (Or.inr e2)]
    · rw [if_neg (fun q => e2 (g.1.mp q)), if_neg (fun q => q.elim e e2)]
theorem v_begins (h : AT T k s) : mjF (d + 2) 290 [.ref 97] (mjW0 s) = some (some (.int (if isVal (T k).1 = true then 1 else 0)), mjW0 s) := by
  have g := v_srt h
  have w7 : mjF (d + 1) 266 [.ref 97, .int 7] (mjW0 s) = _ := v_word (d := d) h (w := 6) (by decide)
  have w8 : mjF (d + 1) 266 [.ref 97, .int 8] (mjW0 s) = _ := v_word (d := d) h (w := 7) (by decide)
  have w10 : mjF (d + 1) 266 [.ref 97, .int 10] (mjW0 s) = _ := v_word (d := d) h (w := 9) (by decide)
  rw [e_290]
  unfold f_290 b_290_0 b_290_61 isVal
  rw [dec_1, xg_97_3]
  by_cases e4 : (T k).1 = 4
  · rw [if_pos (g.2.2.1.mpr e4), if_pos (Or.inr (Or.inl e4))]
  rw [if_neg (fun q => e4 (g.2.2.1.mp q)), xg_97_3]
  by_cases e3 : (T k).1 = 3
  · rw [if_pos (g.2.1.mpr e3), if_pos (Or.inl e3)]
  rw [if_neg (fun q => e3 (g.2.1.mp q)), xV_97, w7, bI_s, i01]
  by_cases e11 : (T k).1 = 11
  · rw [if_pos (show (T k).1 = nI (6 + 5) from e11), if_pos (Or.inr (Or.inr (Or.inl e11)))]
  rw [if_neg (show ¬ (T k).1 = nI (6 + 5) from e11), xV_97, w8, bI_s, i01]
  by_cases e12 : (T k).1 = 12
  · rw [if_pos (show (T k).1 = nI (7 + 5) from e12), if_pos (Or.inr (Or.inr (Or.inr (Or.inl e12))))]
  rw [if_neg (show ¬ (T k).1 = nI (7 + 5) from e12), xV_97, w10, bI_s, i01]
  by_cases e14 : (T k).1 = 14
  · rw [if_pos (show (T k).1 = nI (9 + 5) from e14), if_pos (Or.inr (Or.inr (Or.inr (Or.inr (Or.inl e14)))))]
  rw [if_neg (show ¬ (T k).1 = nI (9 + 5) from e14), xV_97, v_sign h (by decide), bI_s, i01]
  by_cases e40 : (T k).1 = 40
  · rw [if_pos e40, if_pos (Or.inr (Or.inr (Or.inr (Or.inr (Or.inr (Or.inl e40))))))]
  rw [if_neg e40, xV_97, v_sign h (by decide), bI_s, i01]
  by_cases e45 : (T k).1 = 45
  · rw [if_pos e45, if_pos (Or.inr (Or.inr (Or.inr (Or.inr (Or.inr (Or.inr e45))))))]
  rw [if_neg e45, if_neg (fun q => q.elim e3 (fun q => q.elim e4 (fun q => q.elim e11 (fun q => q.elim e12 (fun q => q.elim e14 (fun q => q.elim e40 e45))))))]
/-- the rank of an operator's sign: 3, 2, 1, or 0 -/
def lvl (K : Int32) : Nat := if isPro K = true then 3 else if isSum K = true then 2 else if isCmp K = true then 1 else 0
theorem KL_lvl : KL.all (fun K => decide ((if srt K = 4 then (if nbr K 0 = 37 then (3 : Int32) else if nbr K 0 = 42 then 3 else if nbr K 0 = 43 then 2 else if nbr K 0 = 45 then 2 else if nbr K 0 = 47 then 3 else if nbr K 0 = 60 then 1 else if nbr K 0 = 257 then 1 else if nbr K 0 = 258 then 1 else 0) else 0) = nI (lvl K)) && (decide (¬ srt K = 4) || decide (¬ K = 4))) = true := by decide +kernel
theorem v_level (h : AT T k s) : mjF (d + 1) 295 [.ref 97] (mjW0 s) = some (some (.int (nI (lvl (T k).1))), mjW0 s) := by
  have g := List.all_eq_true.mp KL_lvl _ h.1
  simp only [Bool.and_eq_true, Bool.or_eq_true, decide_eq_true_eq] at g
  rw [← g.1, e_295]
  unfold f_295 b_295_0 b_295_92 b_295_90 b_295_88
  rw [xg_97_3, h.2.1]
  by_cases e : srt (T k).1 = 4
  · have n4 := g.2.resolve_left (fun q => q e)
    rw [if_pos e, if_pos e, xg_97_6, h.2.2.2.1 (Or.inr (Or.inl e)), nbr_0 n4]
    generalize nbr (T k).1 0 = x
    by_cases a1 : x = 37
    · rw [if_pos a1, if_pos a1]
    rw [if_neg a1, if_neg a1]
    by_cases a2 : x = 42
    · rw [if_pos a2, if_pos a2]
    rw [if_neg a2, if_neg a2]
    by_cases a3 : x = 43
    · rw [if_pos a3, if_pos a3]
    rw [if_neg a3, if_neg a3]
    by_cases a4 : x = 45
    · rw [if_pos a4, if_pos a4]
    rw [if_neg a4, if_neg a4]
    by_cases a5 : x = 47
    · rw [if_pos a5, if_pos a5]
    rw [if_neg a5, if_neg a5]
    by_cases a6 : x = 60
    · rw [if_pos a6, if_pos a6]
    rw [if_neg a6, if_neg a6]
    by_cases a7 : x = 257
    · rw [if_pos a7, if_pos a7]
    rw [if_neg a7, if_neg a7]
    by_cases a8 : x = 258
    · rw [if_pos a8, if_pos a8]
    rw [if_neg a8, if_neg a8]
  · rw [if_neg e, if_neg e]
end MJ66
end
section
/-! ===== the reference while it reads ===== -/
/-- what waits: sort, operator, place, many, the argument's place -/
abbrev WF : Type := Int32 × Int32 × Int32 × Int32 × Int32
/-- what may change while an E or a STATEMENT is read -/
def chE (b h j : Nat) : Prop := (h = 97 ∧ (j = 3 ∨ j = 4 ∨ j = 5 ∨ j = 6 ∨ j = 61 ∨ j = 62 ∨ j = 64 ∨ j = 76 ∨ j = 77)) ∨ ((h = 121 ∨ h = 122) ∧ j = b) ∨ ((h = 137 ∨ h = 138) ∧ 800 * b ≤ j ∧ j < 800 * b + 800) ∨ (h = 141 ∧ 4000 * b ≤ j ∧ j < 4000 * b + 4000) ∨ ((h = 143 ∨ h = 144 ∨ h = 145 ∨ h = 146) ∧ 5000 * b ≤ j ∧ j < 5000 * b + 5000) ∨ (151 ≤ h ∧ h ≤ 154) ∨ h = 182
def chEL (b h j : Nat) : Prop := (h = 97 ∧ j = 7) ∨ (h = 136 ∧ 800 * b ≤ j ∧ j < 800 * b + 800) ∨ (h = 140 ∧ 4000 * b ≤ j ∧ j < 4000 * b + 4000) ∨ (h = 147 ∧ 5000 * b ≤ j ∧ j < 5000 * b + 5000)
def offE (b : Nat) : mjSt3 → mjSt3 → Prop := offG (chE b) (chEL b)
theorem offN.E {b : Nat} {s s' : mjSt3} (h : offN s s') : offE b s s' := by
  refine ⟨fun x j n => ?_, fun x j n => ?_, h.2.2.2.2⟩
  · by_cases e : x = 97
    · subst e
      exact h.2.1 j (fun q => n (by unfold chE; omega)) (fun q => n (by unfold chE; omega)) (fun q => n (by unfold chE; omega)) (fun q => n (by unfold chE; omega))
    · rw [h.1 x e]
  · by_cases e : x = 97
    · subst e
      exact h.2.2.2.1 j (fun q => n (by unfold chEL; omega))
    · rw [h.2.2.1 x e]
/-- an order lies at i -/
def Rw (s : mjSt3) (i : Nat) (r : Row) : Prop := s.1 143 i = r.1 ∧ s.1 144 i = r.2.1 ∧ s.1 145 i = r.2.2.1 ∧ s.1 146 i = r.2.2.2.1 ∧ s.2.1 147 i = r.2.2.2.2
/-- how many OWNERS, from the one at c on -/
def cntO (T : TT) : Nat → Nat → Nat
  | 0, _ => 0
  | f + 1, c => if (T (c + 1)).1 = 44 then cntO T f (c + 2) + 1 else 1
/-- an OWNER as the reference writes it -/
def owR (T : TT) (c : Nat) : Int64 := if (T c).1 = 3 then (T c).2.2.1 else if (T c).1 = 12 then -2 else -1
/-- the KIND at token t lies at k -/
def Kd (T : TT) (s : mjSt3) (k t : Nat) : Prop := cntO T 6 (t + 2) ≤ 5 ∧ s.2.1 136 k = (T t).2.2.1 ∧ s.1 137 k = (T t).2.1 ∧ s.1 138 k = nI (cntO T 6 (t + 2)) ∧ ∀ i, i < cntO T 6 (t + 2) → s.2.1 140 (5 * k + i) = owR T (t + 2 + 2 * i) ∧ s.1 141 (5 * k + i) = (T (t + 2 + 2 * i)).2.1
def Wt (s : mjSt3) (i : Nat) (f : WF) : Prop := s.1 151 i = f.1 ∧ s.1 152 i = f.2.1 ∧ s.1 153 i = f.2.2.1 ∧ s.1 154 i = f.2.2.2.1 ∧ s.1 182 i = f.2.2.2.2
/-- at token k, o open, W waits, orders os, KINDS ks -/
def MR (tx : Nat → Int32) (n b : Nat) (s : mjSt3) (k o : Nat) (W : List WF) (os : List Row) (ks : List Nat) : Prop := (MB tx n s ∧ MT tx n k s) ∧ (b ≤ 1 ∧ s.1 97 61 = 0 ∧ s.1 97 63 = nI b ∧ s.1 97 64 = nI o) ∧ (s.1 97 76 = nI W.length ∧ ∀ i f, W[i]? = some f → Wt s i f) ∧ (s.1 122 b = nI os.length ∧ ∀ i r, os[i]? = some r → Rw s (5000 * b + i) r) ∧ (s.1 121 b = nI ks.length ∧ ∀ i t, ks[i]? = some t → Kd (mTT tx n) s (800 * b + i) t)
section MJ67
variable {tx : Nat → Int32} {n b d k o : Nat} {s s' : mjSt3} {W : List WF} {os : List Row} {ks : List Nat}
theorem MR.at (h : MR tx n b s k o W os ks) : AT (mTT tx n) k s := h.1.2.at h.1.1.2.2.2.1
/-- all is as it was, but for the token -/
theorem MR.next (h : MR tx n b s k o W os ks) (r : offN s s') {k' : Nat} (m : MT tx n k' s') : MR tx n b s' k' o W os ks := by
  obtain ⟨⟨a1, _⟩, ⟨b1, b2, b3, b4⟩, ⟨c1, c2⟩, ⟨d1, d2⟩, e1, e2⟩ := h
  have g : ∀ j, ¬ j = 3 → ¬ j = 4 → ¬ j = 5 → ¬ j = 6 → s'.1 97 j = s.1 97 j := r.2.1
  have q : ∀ x, ¬ x = 97 → s'.1 x = s.1 x := r.1
  have l : ∀ x, ¬ x = 97 → s'.2.1 x = s.2.1 x := r.2.2.1
  refine ⟨⟨a1.off r, m⟩, ⟨b1, ?_, ?_, ?_⟩, ⟨?_, fun i f hf => ?_⟩, ⟨?_, fun i x hx => ?_⟩, ?_, fun i t ht => ?_⟩
  · rw [g 61 (by decide) (by decide) (by decide) (by decide), b2]
  · rw [g 63 (by decide) (by decide) (by decide) (by decide), b3]
  · rw [g 64 (by decide) (by decide) (by decide) (by decide), b4]
  · rw [g 76 (by decide) (by decide) (by decide) (by decide), c1]
  · unfold Wt
    rw [q 151 (by decide), q 152 (by decide), q 153 (by decide), q 154 (by decide), q 182 (by decide)]
    exact c2 i f hf
  · rw [q 122 (by decide), d1]
  · unfold Rw
    rw [q 143 (by decide), q 144 (by decide), q 145 (by decide), q 146 (by decide), l 147 (by decide)]
    exact d2 i x hx
  · rw [q 121 (by decide), e1]
  · unfold Kd
    rw [l 136 (by decide), q 137 (by decide), q 138 (by decide), l 140 (by decide), q 141 (by decide)]
    exact e2 i t ht
/-- next() -/
theorem m_next (h : MR tx n b s k o W os ks) (hk : ¬ (mTT tx n k).1 = 1) : ∃ s', mjF (d + 3) 262 [.ref 97] (mjW0 s) = some (none, mjW0 s') ∧ MR tx n b s' (k + 1) o W os ks ∧ offE b s s' ∧ s'.1 97 77 = s.1 97 77 := by
  obtain ⟨s', e, m, r⟩ := x_mt (d := d) h.1.1 h.1.2 hk
  exact ⟨s', e, h.next r m, r.E, r.2.1 77 (by decide) (by decide) (by decide) (by decide)⟩
/-- a field of 97 changed that is nothing to tokens -/
theorem mt_w {tx : Nat → Int32} {n k : Nat} {s : mjSt3} {f : Nat → Int32} (hf : ∀ j, j < 7 → f j = s.1 97 j) (h : MT tx n k s) : MT tx n k (uI s 97 f) := by
  unfold MT at h ⊢
  rw [uI_same, hf 3 (by decide), hf 4 (by decide), hf 5 (by decide), hf 6 (by decide)]
  exact h
theorem mb_w {tx : Nat → Int32} {n : Nat} {s : mjSt3} {f : Nat → Int32} (hf : ∀ j, j < 7 → f j = s.1 97 j) (h : MB tx n s) : MB tx n (uI s 97 f) := by
  unfold MB at h ⊢
  rw [uI_same, hf 2 (by decide), uI_ne _ _ _ _ (by decide)]
  exact h
/-- a field of 97 among open, waits, shape, told, blocks is put -/
theorem MR.w97 (h : MR tx n b s k o W os ks) {j : Nat} {v : Int32} (hj : j = 67 ∨ j = 71 ∨ j = 77) : MR tx n b (uI s 97 (upd (s.1 97) j v)) k o W os ks := by
  obtain ⟨⟨a1, a2⟩, ⟨b1, b2, b3, b4⟩, ⟨c1, c2⟩, ⟨d1, d2⟩, e1, e2⟩ := h
  have g : ∀ i, ¬ i = j → (uI s 97 (upd (s.1 97) j v)).1 97 i = s.1 97 i := fun i e => by rw [uI_same]; exact if_neg e
  have q : ∀ x, ¬ x = 97 → (uI s 97 (upd (s.1 97) j v)).1 x = s.1 x := fun x e => uI_ne _ _ _ _ e
  have f7 : ∀ i, i < 7 → upd (s.1 97) j v i = s.1 97 i := fun i e => if_neg (by omega)
  refine ⟨⟨mb_w f7 a1, mt_w f7 a2⟩, ⟨b1, ?_, ?_, ?_⟩, ⟨?_, fun i f hf => ?_⟩, ⟨?_, fun i x hx => ?_⟩, ?_, fun i t ht => ?_⟩
  · rw [g 61 (by omega), b2]
  · rw [g 63 (by omega), b3]
  · rw [g 64 (by omega), b4]
  · rw [g 76 (by omega), c1]
  · unfold Wt
    rw [q 151 (by decide), q 152 (by decide), q 153 (by decide), q 154 (by decide), q 182 (by decide)]
    exact c2 i f hf
  · rw [q 122 (by decide), d1]
  · unfold Rw
    rw [q 143 (by decide), q 144 (by decide), q 145 (by decide), q 146 (by decide)]
    exact d2 i x hx
  · rw [q 121 (by decide), e1]
  · unfold Kd
    rw [q 137 (by decide), q 138 (by decide), q 141 (by decide)]
    exact e2 i t ht
/-- open is put -/
theorem MR.w64 (h : MR tx n b s k o W os ks) (o' : Nat) : MR tx n b (uI s 97 (upd (s.1 97) 64 (nI o'))) k o' W os ks := by
  obtain ⟨⟨a1, a2⟩, ⟨b1, b2, b3, b4⟩, ⟨c1, c2⟩, ⟨d1, d2⟩, e1, e2⟩ := h
  have g : ∀ i, ¬ i = 64 → (uI s 97 (upd (s.1 97) 64 (nI o'))).1 97 i = s.1 97 i := fun i e => by rw [uI_same]; exact if_neg e
  have q : ∀ x, ¬ x = 97 → (uI s 97 (upd (s.1 97) 64 (nI o'))).1 x = s.1 x := fun x e => uI_ne _ _ _ _ e
  have f7 : ∀ i, i < 7 → upd (s.1 97) 64 (nI o') i = s.1 97 i := fun i e => if_neg (by omega)
  refine ⟨⟨mb_w f7 a1, mt_w f7 a2⟩, ⟨b1, ?_, ?_, ?_⟩, ⟨?_, fun i f hf => ?_⟩, ⟨?_, fun i x hx => ?_⟩, ?_, fun i t ht => ?_⟩
  · rw [g 61 (by omega), b2]
  · rw [g 63 (by omega), b3]
  · rw [uI_same]; exact if_pos rfl
  · rw [g 76 (by omega), c1]
  · unfold Wt
    rw [q 151 (by decide), q 152 (by decide), q 153 (by decide), q 154 (by decide), q 182 (by decide)]
    exact c2 i f hf
  · rw [q 122 (by decide), d1]
  · unfold Rw
    rw [q 143 (by decide), q 144 (by decide), q 145 (by decide), q 146 (by decide)]
    exact d2 i x hx
  · rw [q 121 (by decide), e1]
  · unfold Kd
    rw [q 137 (by decide), q 138 (by decide), q 141 (by decide)]
    exact e2 i t ht
/-- the last that waits is taken off -/
theorem MR.pop {f : WF} (h : MR tx n b s k o (W ++ [f]) os ks) : MR tx n b (uI s 97 (upd (s.1 97) 76 (nI W.length))) k o W os ks := by
  obtain ⟨⟨a1, a2⟩, ⟨b1, b2, b3, b4⟩, ⟨c1, c2⟩, ⟨d1, d2⟩, e1, e2⟩ := h
  have g : ∀ i, ¬ i = 76 → (uI s 97 (upd (s.1 97) 76 (nI W.length))).1 97 i = s.1 97 i := fun i e => by rw [uI_same]; exact if_neg e
  have q : ∀ x, ¬ x = 97 → (uI s 97 (upd (s.1 97) 76 (nI W.length))).1 x = s.1 x := fun x e => uI_ne _ _ _ _ e
  have f7 : ∀ i, i < 7 → upd (s.1 97) 76 (nI W.length) i = s.1 97 i := fun i e => if_neg (by omega)
  refine ⟨⟨mb_w f7 a1, mt_w f7 a2⟩, ⟨b1, ?_, ?_, ?_⟩, ⟨?_, fun i f hf => ?_⟩, ⟨?_, fun i x hx => ?_⟩, ?_, fun i t ht => ?_⟩
  · rw [g 61 (by omega), b2]
  · rw [g 63 (by omega), b3]
  · rw [g 64 (by omega), b4]
  · rw [uI_same]; exact if_pos rfl
  · unfold Wt
    rw [q 151 (by decide), q 152 (by decide), q 153 (by decide), q 154 (by decide), q 182 (by decide)]
    exact c2 i f (by rw [List.getElem?_append_left (List.getElem?_eq_some_iff.mp hf).1]; exact hf)
  · rw [q 122 (by decide), d1]
  · unfold Rw
    rw [q 143 (by decide), q 144 (by decide), q 145 (by decide), q 146 (by decide)]
    exact d2 i x hx
  · rw [q 121 (by decide), e1]
  · unfold Kd
    rw [q 137 (by decide), q 138 (by decide), q 141 (by decide)]
    exact e2 i t ht
end MJ67
end
section
/-! ===== the reference: order, waits, opens, closes ===== -/
/-- the state behind an order -/
def orS (s : mjSt3) (i b m : Nat) (w p a c : Int32) (nm : Int64) : mjSt3 := uI (uL (uI (uI (uI (uI s 143 (upd (s.1 143) i w)) 144 (upd (s.1 144) i p)) 145 (upd (s.1 145) i a)) 146 (upd (s.1 146) i c)) 147 (vp_updL (s.2.1 147) i nm)) 122 (upd (s.1 122) b (nI (m + 1)))
section MJ68
variable {tx : Nat → Int32} {n b d k o : Nat} {s s' : mjSt3} {W : List WF} {os : List Row} {ks : List Nat}
theorem orS_at {i m : Nat} {w p a c : Int32} {nm : Int64} : (orS s i b m w p a c nm).1 143 = upd (s.1 143) i w ∧ (orS s i b m w p a c nm).1 144 = upd (s.1 144) i p ∧ (orS s i b m w p a c nm).1 145 = upd (s.1 145) i a ∧ (orS s i b m w p a c nm).1 146 = upd (s.1 146) i c ∧ (orS s i b m w p a c nm).2.1 147 = vp_updL (s.2.1 147) i nm ∧ (orS s i b m w p a c nm).1 122 = upd (s.1 122) b (nI (m + 1)) ∧ (∀ h, ¬ (143 ≤ h ∧ h ≤ 146) → ¬ h = 122 → (orS s i b m w p a c nm).1 h = s.1 h) ∧ (∀ h, ¬ h = 147 → (orS s i b m w p a c nm).2.1 h = s.2.1 h) ∧ (orS s i b m w p a c nm).2.2 = s.2.2 := by
  unfold orS
  refine ⟨?_, ?_, ?_, ?_, ?_, ?_, fun h x y => ?_, fun h x => ?_, rfl⟩
  · rw [uI_ne _ _ _ _ (by decide), uL_i, uI_ne _ _ _ _ (by decide), uI_ne _ _ _ _ (by decide), uI_ne _ _ _ _ (by decide), uI_same]
  · rw [uI_ne _ _ _ _ (by decide), uL_i, uI_ne _ _ _ _ (by decide), uI_ne _ _ _ _ (by decide), uI_same]
  · rw [uI_ne _ _ _ _ (by decide), uL_i, uI_ne _ _ _ _ (by decide), uI_same]
  · rw [uI_ne _ _ _ _ (by decide), uL_i, uI_same]
  · rw [uI_l, uL_same]
  · rw [uI_same]
  · rw [uI_ne _ _ _ _ y, uL_i, uI_ne _ _ _ _ (by omega), uI_ne _ _ _ _ (by omega), uI_ne _ _ _ _ (by omega), uI_ne _ _ _ _ (by omega)]
  · rw [uI_l, uL_ne _ _ _ _ x]; rfl
theorem orS_off {m : Nat} {w p a c : Int32} {nm : Int64} (hm : m < 5000) : offE b s (orS s (5000 * b + m) b m w p a c nm) := by
  have f := orS_at (s := s) (i := 5000 * b + m) (b := b) (m := m) (w := w) (p := p) (a := a) (c := c) (nm := nm)
  refine ⟨fun h j q => ?_, fun h j q => ?_, f.2.2.2.2.2.2.2.2⟩
  · by_cases e1 : h = 143
    · rw [e1, f.1]; exact if_neg (fun e => q (by unfold chE; omega))
    by_cases e2 : h = 144
    · rw [e2, f.2.1]; exact if_neg (fun e => q (by unfold chE; omega))
    by_cases e3 : h = 145
    · rw [e3, f.2.2.1]; exact if_neg (fun e => q (by unfold chE; omega))
    by_cases e4 : h = 146
    · rw [e4, f.2.2.2.1]; exact if_neg (fun e => q (by unfold chE; omega))
    by_cases e5 : h = 122
    · rw [e5, f.2.2.2.2.2.1]; exact if_neg (fun e => q (by unfold chE; omega))
    rw [f.2.2.2.2.2.2.1 h (by omega) e5]
  · by_cases e1 : h = 147
    · rw [e1, f.2.2.2.2.1]; exact if_neg (fun e => q (by unfold chEL; omega))
    rw [f.2.2.2.2.2.2.2.1 h e1]
theorem MR.order (h : MR tx n b s k o W os ks) {w p a c : Int32} {nm : Int64} : MR tx n b (orS s (5000 * b + os.length) b os.length w p a c nm) k o W (os ++ [(w, p, a, c, nm)]) ks := by
  obtain ⟨⟨a1, a2⟩, ⟨b1, b2, b3, b4⟩, ⟨c1, c2⟩, ⟨d1, d2⟩, e1, e2⟩ := h
  have f := orS_at (s := s) (i := 5000 * b + os.length) (b := b) (m := os.length) (w := w) (p := p) (a := a) (c := c) (nm := nm)
  have q : ∀ h, ¬ (143 ≤ h ∧ h ≤ 146) → ¬ h = 122 → (orS s (5000 * b + os.length) b os.length w p a c nm).1 h = s.1 h := f.2.2.2.2.2.2.1
  have l : ∀ h, ¬ h = 147 → (orS s (5000 * b + os.length) b os.length w p a c nm).2.1 h = s.2.1 h := f.2.2.2.2.2.2.2.1
  have e97 := q 97 (by omega) (by omega)
  have l97 := l 97 (by omega)
  refine ⟨⟨?_, ?_⟩, ⟨b1, ?_, ?_, ?_⟩, ⟨?_, fun i f hf => ?_⟩, ⟨?_, fun i x hx => ?_⟩, ?_, fun i t ht => ?_⟩
  · unfold MB at a1 ⊢
    rw [e97, q 98 (by omega) (by omega), l 99 (by omega)]; exact a1
  · unfold MT at a2 ⊢
    rw [e97, l97]; exact a2
  · rw [e97, b2]
  · rw [e97, b3]
  · rw [e97, b4]
  · rw [e97, c1]
  · unfold Wt
    rw [q 151 (by omega) (by omega), q 152 (by omega) (by omega), q 153 (by omega) (by omega), q 154 (by omega) (by omega), q 182 (by omega) (by omega)]
    exact c2 i f hf
  · rw [f.2.2.2.2.2.1, up_same, List.length_append]; rfl
  · unfold Rw
    rw [f.1, f.2.1, f.2.2.1, f.2.2.2.1, f.2.2.2.2.1]
    simp only [upd_g, updL_g]
    by_cases hl : i < os.length
    · rw [List.getElem?_append_left hl] at hx
      have ne : ¬ 5000 * b + i = 5000 * b + os.length := by omega
      simp only [if_neg ne]
      exact d2 i x hx
    · have hx' := (List.getElem?_eq_some_iff.mp hx).1
      rw [List.length_append, List.length_singleton] at hx'
      have e : i = os.length := by omega
      subst e
      rw [List.getElem?_append_right (Nat.le_refl _), Nat.sub_self] at hx
      have e2 : (w, p, a, c, nm) = x := by simpa using hx
      subst e2
      exact ⟨if_pos rfl, if_pos rfl, if_pos rfl, if_pos rfl, if_pos rfl⟩
  · rw [q 121 (by omega) (by omega), e1]
  · unfold Kd
    rw [l 136 (by omega), q 137 (by omega) (by omega), q 138 (by omega) (by omega), l 140 (by omega), q 141 (by omega) (by omega)]
    exact e2 i t ht
theorem idx5 {b m : Nat} (hb : b ≤ 1) : (5000 : Int32) * nI b + nI m = nI (5000 * b + m) := by
  rw [show (5000 : Int32) = nI 5000 from rfl, pk_mul, nI_add]
theorem m_order (h : MR tx n b s k o W os ks) (hl : os.length < 4990) (w p a c : Int32) : ∃ s', mjF (d + 1) 281 [.ref 97, .int w, .int p, .int a, .int c] (mjW0 s) = some (none, mjW0 s') ∧ MR tx n b s' k o W (os ++ [(w, p, a, c, 0)]) ks ∧ offE b s s' ∧ s'.1 97 = s.1 97 := by
  have hb := h.2.1.1
  have f := orS_at (s := s) (i := 5000 * b + os.length) (b := b) (m := os.length) (w := w) (p := p) (a := a) (c := c) (nm := 0)
  refine ⟨_, ?_, h.order (w := w) (p := p) (a := a) (c := c) (nm := 0), orS_off (by omega), f.2.2.2.2.2.2.1 97 (by omega) (by omega)⟩
  have hB := h.2.1.2.2.1
  have hO := h.2.2.2.1.1
  rw [e_281]
  unfold f_281 b_281_0
  rw [xg_97_63, hB, xg_97_33, xg_97_63, hB, xa_122, if_pos (mj_in_nI (by omega) (by decide)), nI_clamp (by omega), hO, idx5 hb, xg_97_54, xs_143, if_pos (mj_in_nI (by omega) (by decide)), nI_clamp (by omega), xg_97_55, xs_144, if_pos (mj_in_nI (by omega) (by decide)), nI_clamp (by omega), uI_ne _ _ _ _ (by decide), xg_97_56, xs_145, if_pos (mj_in_nI (by omega) (by decide)), nI_clamp (by omega), uI_ne _ _ _ _ (by decide), uI_ne _ _ _ _ (by decide), xg_97_57, xs_146, if_pos (mj_in_nI (by omega) (by decide)), nI_clamp (by omega), uI_ne _ _ _ _ (by decide), uI_ne _ _ _ _ (by decide), uI_ne _ _ _ _ (by decide), xg_97_58, xs_147, if_pos (mj_in_nI (by omega) (by decide)), nI_clamp (by omega), xg_97_33, xg_97_63, uL_i, uI_ne _ _ _ _ (by decide), uI_ne _ _ _ _ (by decide), uI_ne _ _ _ _ (by decide), uI_ne _ _ _ _ (by decide), hB, xa_122, if_pos (mj_in_nI (by omega) (by decide)), nI_clamp (by omega), uL_i, uI_ne _ _ _ _ (by decide), uI_ne _ _ _ _ (by decide), uI_ne _ _ _ _ (by decide), uI_ne _ _ _ _ (by decide), hO, nI_1, xs_122, if_pos (mj_in_nI (by omega) (by decide)), nI_clamp (by omega), uL_i, uI_ne _ _ _ _ (by decide), uI_ne _ _ _ _ (by decide), uI_ne _ _ _ _ (by decide), uI_ne _ _ _ _ (by decide)]
  rfl
theorem orS_nm {i m : Nat} {w p a c : Int32} {nm : Int64} : uL (orS s i b m w p a c 0) 147 (vp_updL ((orS s i b m w p a c 0).2.1 147) i nm) = orS s i b m w p a c nm := by
  rw [orS_at.2.2.2.2.1, vupd_upd]
  unfold orS
  rw [← uI_uL, uL_uL]
theorem m_orderName (h : MR tx n b s k o W os ks) (hl : os.length < 4990) (w p a : Int32) (nm : Int64) : ∃ s', mjF (d + 2) 286 [.ref 97, .int w, .int p, .long nm, .int a] (mjW0 s) = some (none, mjW0 s') ∧ MR tx n b s' k o W (os ++ [(w, p, a, 0, nm)]) ks ∧ offE b s s' ∧ s'.1 97 = s.1 97 := by
  have hb := h.2.1.1
  have f := orS_at (s := s) (i := 5000 * b + os.length) (b := b) (m := os.length) (w := w) (p := p) (a := a) (c := 0) (nm := nm)
  have f0 := orS_at (s := s) (i := 5000 * b + os.length) (b := b) (m := os.length) (w := w) (p := p) (a := a) (c := 0) (nm := 0)
  refine ⟨_, ?_, h.order (w := w) (p := p) (a := a) (c := 0) (nm := nm), orS_off (by omega), f.2.2.2.2.2.2.1 97 (by omega) (by omega)⟩
  have hB := h.2.1.2.2.1
  have hO := h.2.2.2.1.1
  have e : mjF (d + 1) 281 [.ref 97, .int w, .int p, .int a, .int 0] (mjW0 s) = some (none, mjW0 (orS s (5000 * b + os.length) b os.length w p a 0 0)) := by
    rw [e_281]
    unfold f_281 b_281_0
    rw [xg_97_63, hB, xg_97_33, xg_97_63, hB, xa_122, if_pos (mj_in_nI (by omega) (by decide)), nI_clamp (by omega), hO, idx5 hb, xg_97_54, xs_143, if_pos (mj_in_nI (by omega) (by decide)), nI_clamp (by omega), xg_97_55, xs_144, if_pos (mj_in_nI (by omega) (by decide)), nI_clamp (by omega), uI_ne _ _ _ _ (by decide), xg_97_56, xs_145, if_pos (mj_in_nI (by omega) (by decide)), nI_clamp (by omega), uI_ne _ _ _ _ (by decide), uI_ne _ _ _ _ (by decide), xg_97_57, xs_146, if_pos (mj_in_nI (by omega) (by decide)), nI_clamp (by omega), uI_ne _ _ _ _ (by decide), uI_ne _ _ _ _ (by decide), uI_ne _ _ _ _ (by decide), xg_97_58, xs_147, if_pos (mj_in_nI (by omega) (by decide)), nI_clamp (by omega), xg_97_33, xg_97_63, uL_i, uI_ne _ _ _ _ (by decide), uI_ne _ _ _ _ (by decide), uI_ne _ _ _ _ (by decide), uI_ne _ _ _ _ (by decide), hB, xa_122, if_pos (mj_in_nI (by omega) (by decide)), nI_clamp (by omega), uL_i, uI_ne _ _ _ _ (by decide), uI_ne _ _ _ _ (by decide), uI_ne _ _ _ _ (by decide), uI_ne _ _ _ _ (by decide), hO, nI_1, xs_122, if_pos (mj_in_nI (by omega) (by decide)), nI_clamp (by omega), uL_i, uI_ne _ _ _ _ (by decide), uI_ne _ _ _ _ (by decide), uI_ne _ _ _ _ (by decide), uI_ne _ _ _ _ (by decide)]
    rfl
  have e97 : (orS s (5000 * b + os.length) b os.length w p a 0 0).1 97 = s.1 97 := f0.2.2.2.2.2.2.1 97 (by omega) (by omega)
  rw [e_286]
  unfold f_286 b_286_0
  rw [xV_97, e, bN_s, xg_97_58, xg_97_63, e97, hB, xg_97_33, xg_97_63, e97, hB, xa_122, if_pos (mj_in_nI (by omega) (by decide)), nI_clamp (by omega), f0.2.2.2.2.2.1, up_same, idx5 hb, show nI (5000 * b + (os.length + 1)) - (1 : Int32) = nI (5000 * b + os.length) from nI_pred (5000 * b + os.length), xs_147, if_pos (mj_in_nI (by omega) (by decide)), nI_clamp (by omega), orS_nm]
/-- something waits -/
def waS (s : mjSt3) (m : Nat) (w p a c : Int32) : mjSt3 := uI (uI (uI (uI (uI s 151 (upd (s.1 151) m w)) 152 (upd (s.1 152) m p)) 153 (upd (s.1 153) m a)) 154 (upd (s.1 154) m c)) 97 (upd (s.1 97) 76 (nI (m + 1)))
theorem waS_at {m : Nat} {w p a c : Int32} : (waS s m w p a c).1 151 = upd (s.1 151) m w ∧ (waS s m w p a c).1 152 = upd (s.1 152) m p ∧ (waS s m w p a c).1 153 = upd (s.1 153) m a ∧ (waS s m w p a c).1 154 = upd (s.1 154) m c ∧ (waS s m w p a c).1 97 = upd (s.1 97) 76 (nI (m + 1)) ∧ (∀ h, ¬ (151 ≤ h ∧ h ≤ 154) → ¬ h = 97 → (waS s m w p a c).1 h = s.1 h) ∧ (waS s m w p a c).2 = s.2 := by
  unfold waS
  refine ⟨?_, ?_, ?_, ?_, ?_, fun h x y => ?_, rfl⟩
  · rw [uI_ne _ _ _ _ (by decide), uI_ne _ _ _ _ (by decide), uI_ne _ _ _ _ (by decide), uI_ne _ _ _ _ (by decide), uI_same]
  · rw [uI_ne _ _ _ _ (by decide), uI_ne _ _ _ _ (by decide), uI_ne _ _ _ _ (by decide), uI_same]
  · rw [uI_ne _ _ _ _ (by decide), uI_ne _ _ _ _ (by decide), uI_same]
  · rw [uI_ne _ _ _ _ (by decide), uI_same]
  · rw [uI_same]
  · rw [uI_ne _ _ _ _ y, uI_ne _ _ _ _ (by omega), uI_ne _ _ _ _ (by omega), uI_ne _ _ _ _ (by omega), uI_ne _ _ _ _ (by omega)]
theorem m_waits (h : MR tx n b s k o W os ks) (hl : W.length < 64) (w p a c : Int32) : ∃ s' x, mjF (d + 1) 288 [.ref 97, .int w, .int p, .int a, .int c] (mjW0 s) = some (none, mjW0 s') ∧ MR tx n b s' k o (W ++ [(w, p, a, c, x)]) os ks ∧ offE b s s' ∧ s'.1 97 77 = s.1 97 77 := by
  have hW := h.2.2.1.1
  have f := waS_at (s := s) (m := W.length) (w := w) (p := p) (a := a) (c := c)
  refine ⟨waS s W.length w p a c, s.1 182 W.length, ?_, ?_, ?_, ?_⟩
  · rw [e_288]
    unfold f_288 b_288_0
    rw [xg_97_72, xg_97_76, hW, xs_151, if_pos (mj_in_nI hl (by decide)), nI_clamp (by omega), xg_97_73, xg_97_76, uI_ne _ _ _ _ (by decide), hW, xs_152, if_pos (mj_in_nI hl (by decide)), nI_clamp (by omega), uI_ne _ _ _ _ (by decide), xg_97_74, xg_97_76, uI_ne _ _ _ _ (by decide), uI_ne _ _ _ _ (by decide), hW, xs_153, if_pos (mj_in_nI hl (by decide)), nI_clamp (by omega), uI_ne _ _ _ _ (by decide), uI_ne _ _ _ _ (by decide), xg_97_75, xg_97_76, uI_ne _ _ _ _ (by decide), uI_ne _ _ _ _ (by decide), uI_ne _ _ _ _ (by decide), hW, xs_154, if_pos (mj_in_nI hl (by decide)), nI_clamp (by omega), uI_ne _ _ _ _ (by decide), uI_ne _ _ _ _ (by decide), uI_ne _ _ _ _ (by decide), xg_97_76, uI_ne _ _ _ _ (by decide), uI_ne _ _ _ _ (by decide), uI_ne _ _ _ _ (by decide), uI_ne _ _ _ _ (by decide), hW, nI_1, xp_97_76, uI_ne _ _ _ _ (by decide), uI_ne _ _ _ _ (by decide), uI_ne _ _ _ _ (by decide), uI_ne _ _ _ _ (by decide)]
    rfl
  · obtain ⟨⟨a1, a2⟩, ⟨b1, b2, b3, b4⟩, ⟨c1, c2⟩, ⟨d1, d2⟩, e1, e2⟩ := h
    have q : ∀ h, ¬ (151 ≤ h ∧ h ≤ 154) → ¬ h = 97 → (waS s W.length w p a c).1 h = s.1 h := f.2.2.2.2.2.1
    have g : ∀ j, ¬ j = 76 → (waS s W.length w p a c).1 97 j = s.1 97 j := fun j e => by rw [f.2.2.2.2.1]; exact if_neg e
    have l := f.2.2.2.2.2.2
    refine ⟨⟨?_, ?_⟩, ⟨b1, ?_, ?_, ?_⟩, ⟨?_, fun i x hx => ?_⟩, ⟨?_, fun i x hx => ?_⟩, ?_, fun i t ht => ?_⟩
    · unfold MB at a1 ⊢
      rw [g 2 (by omega), q 98 (by omega) (by omega), l]; exact a1
    · unfold MT at a2 ⊢
      rw [g 3 (by omega), g 4 (by omega), g 5 (by omega), g 6 (by omega), l]; exact a2
    · rw [g 61 (by omega), b2]
    · rw [g 63 (by omega), b3]
    · rw [g 64 (by omega), b4]
    · rw [f.2.2.2.2.1, up_same, List.length_append]; rfl
    · unfold Wt
      rw [f.1, f.2.1, f.2.2.1, f.2.2.2.1, q 182 (by omega) (by omega)]
      simp only [upd_g]
      by_cases hl : i < W.length
      · rw [List.getElem?_append_left hl] at hx
        have ne : ¬ i = W.length := by omega
        simp only [if_neg ne]
        exact c2 i x hx
      · have hx' := (List.getElem?_eq_some_iff.mp hx).1
        rw [List.length_append, List.length_singleton] at hx'
        have e : i = W.length := by omega
        subst e
        rw [List.getElem?_append_right (Nat.le_refl _), Nat.sub_self] at hx
        have e2 : (w, p, a, c, s.1 182 W.length) = x := by simpa using hx
        subst e2
        exact ⟨if_pos rfl, if_pos rfl, if_pos rfl, if_pos rfl, rfl⟩
    · rw [q 122 (by omega) (by omega), d1]
    · unfold Rw
      rw [q 143 (by omega) (by omega), q 144 (by omega) (by omega), q 145 (by omega) (by omega), q 146 (by omega) (by omega), l]
      exact d2 i x hx
    · rw [q 121 (by omega) (by omega), e1]
    · unfold Kd
      rw [q 137 (by omega) (by omega), q 138 (by omega) (by omega), q 141 (by omega) (by omega), l]
      exact e2 i t ht
  · refine offG_of (fun h j z => ?_) f.2.2.2.2.2.2
    by_cases e : 151 ≤ h ∧ h ≤ 154
    · exact absurd (by unfold chE; omega) z
    by_cases e2 : h = 97
    · rw [e2, f.2.2.2.2.1]; exact if_neg (fun q => z (by unfold chE; omega))
    rw [f.2.2.2.2.2.1 h e e2]
  · rw [f.2.2.2.2.1]; exact if_neg (by decide)
theorem w97_off {j : Nat} {v : Int32} (hj : j = 61 ∨ j = 62 ∨ j = 64 ∨ j = 76 ∨ j = 77) : offE b s (uI s 97 (upd (s.1 97) j v)) := offG.w (by unfold chE; omega)
theorem bS_off (x y : Int32) : offE b s (bS s x y) := by
  have f := bS_at (s := s) x y
  refine offG_of (fun h j z => ?_) f.2.2.2.2
  by_cases e : h = 97
  · subst e
    exact f.2.2.1 j (fun q => z (by unfold chE; omega)) (fun q => z (by unfold chE; omega))
  · rw [f.2.2.2.1 h e]
end MJ68
end
section
/-! ===== how long what is read is ===== -/
section MJ69
variable {T : TT} {M : Nat}
theorem pOwn_len : ∀ (f k c c' : Nat), pOwn T f k c = .inr c' → 1 ≤ f → c + 2 ≤ c'
  | 0, _, _, _, _, h => by omega
  | f + 1, k, c, c', h, _ => by
    unfold pOwn at h
    by_cases h1 : (T c).1 = 12 ∨ (T c).1 = 13 ∨ (T c).1 = 3
    · rw [if_pos h1] at h
      by_cases h2 : k = 5
      · rw [if_pos h2] at h; cases h
      · rw [if_neg h2] at h
        by_cases h3 : (T (c + 1)).1 = 44
        · rw [if_pos h3] at h
          cases f with
          | zero =>
            have : c + 2 = c' := by simpa [pOwn] using h
            omega
          | succ f =>
            have := pOwn_len (f + 1) (k + 1) (c + 2) c' h (by omega)
            omega
        · rw [if_neg h3] at h
          by_cases h4 : (T (c + 1)).1 = 93
          · rw [if_pos h4] at h
            have : c + 2 = c' := by simpa using h
            omega
          · rw [if_neg h4] at h; cases h
    · rw [if_neg h1] at h; cases h
theorem pKind_len {c c' : Nat} (h : pKind T c = .inr c') : c + 4 ≤ c' := by
  unfold pKind at h
  by_cases h1 : (T c).1 = 2
  · rw [if_pos h1] at h
    by_cases h2 : (T (c + 1)).1 = 91
    · rw [if_pos h2] at h
      have := pOwn_len 6 0 (c + 2) c' h (by omega)
      omega
    · rw [if_neg h2] at h; cases h
  · rw [if_neg h1] at h; cases h
/-- x more orders than tokens at most -/
def lnZ (c : Nat) (x : Nat) (z : PZ) : Prop := c < z.1 ∧ z.2.2.2.1.length ≤ z.1 - c + x ∧ 4 * z.2.2.1.length ≤ z.1 - c
theorem pLoop_len {sg : Int32 → Bool} {rd : Nat → Nat → PX} {kq c : Nat} (hr : ∀ c kq y, rd c kq = .inr y → lnZ c 0 y) : ∀ (k : Nat) (z y : PZ), lnZ c 0 z → pLoop T sg rd kq k z = .inr y → lnZ c 0 y
  | 0, z, y, hz, h => by cases h; exact hz
  | k + 1, z, y, hz, h => by
    unfold pLoop at h
    by_cases g : sg (T z.1).1 = true
    · rw [if_pos g] at h
      cases hd : rd (z.1 + 1) (kq + z.2.2.1.length) with
      | inl e => rw [hd] at h; cases h
      | inr w =>
        rw [hd] at h
        have hw := hr _ _ _ hd
        refine pLoop_len hr k _ y ?_ h
        obtain ⟨a1, a2, a3⟩ := hz
        obtain ⟨b1, b2, b3⟩ := hw
        refine ⟨?_, ?_, ?_⟩
        · show c < w.1; omega
        · simp only [List.length_append, List.length_singleton]; omega
        · simp only [List.length_append]; omega
    · rw [if_neg g] at h
      cases h
      exact hz
theorem pPost_len {ra : Nat → Nat → PX} {kq c : Nat} (hr : ∀ c kq y, ra c kq = .inr y → lnZ c 1 y) : ∀ (k : Nat) (z y : PZ), lnZ c 0 z → pPost T ra kq k z = .inr y → lnZ c 0 y
  | 0, z, y, hz, h => by cases h; exact hz
  | k + 1, z, y, hz, h => by
    unfold pPost at h
    obtain ⟨a1, a2, a3⟩ := hz
    by_cases g : (T z.1).1 = 20
    · rw [if_pos g] at h
      cases hd : pKind T (z.1 + 1) with
      | inl e => rw [hd] at h; cases h
      | inr c' =>
        rw [hd] at h
        have hw := pKind_len hd
        refine pPost_len hr k _ y ⟨?_, ?_, ?_⟩ h
        · show c < c'; omega
        · simp only [List.length_append, List.length_singleton]; omega
        · simp only [List.length_append, List.length_singleton]; omega
    · rw [if_neg g] at h
      by_cases g2 : (T z.1).1 = 46
      · rw [if_pos g2] at h
        by_cases g3 : (T (z.1 + 1)).1 = 3
        · rw [if_pos g3] at h
          by_cases g4 : (T (z.1 + 2)).1 = 40
          · rw [if_pos g4] at h
            cases hd : ra (z.1 + 2) (kq + z.2.2.1.length) with
            | inl e => rw [hd] at h; cases h
            | inr w =>
              rw [hd] at h
              obtain ⟨b1, b2, b3⟩ := hr _ _ _ hd
              refine pPost_len hr k _ y ⟨?_, ?_, ?_⟩ h
              · show c < w.1; omega
              · simp only [List.length_append]; omega
              · simp only [List.length_append]; omega
          · rw [if_neg g4] at h
            refine pPost_len hr k _ y ⟨?_, ?_, ?_⟩ h
            · show c < z.1 + 2; omega
            · simp only [List.length_append, List.length_singleton]; omega
            · show 4 * z.2.2.1.length ≤ z.1 + 2 - c; omega
        · rw [if_neg g3] at h; cases h
      · rw [if_neg g2] at h
        cases h
        exact ⟨a1, a2, a3⟩
theorem pArgs_len {rv : Nat → Nat → PX} {kq c : Nat} (hr : ∀ c kq y, rv c kq = .inr y → lnZ c 0 y) : ∀ (f k : Nat) (z : PZ) (y : Nat × PZ), (c ≤ z.1 ∧ z.2.2.2.1.length ≤ z.1 - c ∧ 4 * z.2.2.1.length ≤ z.1 - c) → pArgs T rv kq f k z = .inr y → lnZ c 0 y.2
  | 0, k, z, y, hz, h => by cases h
  | f + 1, k, z, y, hz, h => by
    unfold pArgs at h
    obtain ⟨a1, a2, a3⟩ := hz
    by_cases g : k = 6
    · rw [if_pos g] at h; cases h
    · rw [if_neg g] at h
      cases hd : rv z.1 (kq + z.2.2.1.length) with
      | inl e => rw [hd] at h; cases h
      | inr w =>
        rw [hd] at h
        obtain ⟨b1, b2, b3⟩ := hr _ _ _ hd
        by_cases g2 : (T w.1).1 = 44
        · simp only [if_pos g2] at h
          refine pArgs_len hr f (k + 1) _ y ⟨?_, ?_, ?_⟩ h
          · show c ≤ w.1 + 1; omega
          · simp only [List.length_append, List.length_singleton]; omega
          · simp only [List.length_append]; omega
        · simp only [if_neg g2] at h
          by_cases g3 : (T w.1).1 = 41
          · simp only [if_pos g3] at h
            cases h
            refine ⟨?_, ?_, ?_⟩
            · show c < w.1 + 1; omega
            · simp only [List.length_append, List.length_singleton]; omega
            · simp only [List.length_append]; omega
          · simp only [if_neg g3] at h; cases h
theorem prE_len : ∀ (f tag o c kq : Nat) (y : PZ), tag ≤ 6 → prE T M f tag o c kq = .inr y → lnZ c (if tag = 6 then 1 else 0) y
  | 0, _, _, _, _, _, _, h => by cases h
  | f + 1, 0, o, c, kq, y, _, h => by
    have ih := prE_len f
    rw [prE_0] at h
    cases hd : prE T M f 1 o c kq with
    | inl e => rw [hd] at h; cases h
    | inr z =>
      rw [hd] at h
      have hz := ih 1 o c kq z (by omega) hd
      obtain ⟨a1, a2, a3⟩ := hz
      by_cases g : isCmp (T z.1).1 = true
      · simp only [if_pos g] at h
        cases hd2 : prE T M f 1 o (z.1 + 1) (kq + z.2.2.1.length) with
        | inl e => rw [hd2] at h; cases h
        | inr w =>
          rw [hd2] at h
          obtain ⟨b1, b2, b3⟩ := ih 1 o _ _ w (by omega) hd2
          simp only [show ¬ (1 : Nat) = 6 by decide, if_false] at a2 b2
          cases h
          refine ⟨?_, ?_, ?_⟩
          · show c < w.1; omega
          · simp only [List.length_append, List.length_singleton]; omega
          · simp only [List.length_append]; omega
      · simp only [if_neg g] at h
        cases h
        exact ⟨a1, a2, a3⟩
  | f + 1, 1, o, c, kq, y, _, h => by
    have ih := prE_len f
    rw [prE_1] at h
    cases hd : prE T M f 2 o c kq with
    | inl e => rw [hd] at h; cases h
    | inr z =>
      rw [hd] at h
      exact pLoop_len (fun c kq y hy => ih 2 o c kq y (by omega) hy) M z y (ih 2 o c kq z (by omega) hd) h
  | f + 1, 2, o, c, kq, y, _, h => by
    have ih := prE_len f
    rw [prE_2] at h
    cases hd : prE T M f 3 o c kq with
    | inl e => rw [hd] at h; cases h
    | inr z =>
      rw [hd] at h
      exact pLoop_len (fun c kq y hy => ih 3 o c kq y (by omega) hy) M z y (ih 3 o c kq z (by omega) hd) h
  | f + 1, 3, o, c, kq, y, _, h => by
    have ih := prE_len f
    rw [prE_3] at h
    by_cases g : (T c).1 = 45
    · rw [if_pos g] at h
      by_cases g2 : o = 12
      · rw [if_pos g2] at h; cases h
      · rw [if_neg g2] at h
        cases hd : prE T M f 3 (o + 1) (c + 1) kq with
        | inl e => rw [hd] at h; cases h
        | inr z =>
          rw [hd] at h
          obtain ⟨a1, a2, a3⟩ := ih 3 (o + 1) (c + 1) kq z (by omega) hd
          simp only [show ¬ (3 : Nat) = 6 by decide, if_false] at a2
          cases h
          refine ⟨?_, ?_, ?_⟩
          · show c < z.1; omega
          · simp only [List.length_append, List.length_singleton, show ¬ (3 : Nat) = 6 by decide, if_false]; omega
          · show 4 * z.2.2.1.length ≤ z.1 - c; omega
    · rw [if_neg g] at h
      exact ih 4 o c kq y (by omega) h
  | f + 1, 4, o, c, kq, y, _, h => by
    have ih := prE_len f
    rw [prE_4] at h
    cases hd : prE T M f 5 o c kq with
    | inl e => rw [hd] at h; cases h
    | inr z =>
      rw [hd] at h
      exact pPost_len (fun c kq y hy => ih 6 o c kq y (by omega) hy) M z y (ih 5 o c kq z (by omega) hd) h
  | f + 1, 5, o, c, kq, y, _, h => by
    have ih := prE_len f
    rw [prE_5] at h
    unfold pAtom at h
    have one : ∀ (r : Row) (sh : Int32), lnZ c (if (5 : Nat) = 6 then 1 else 0) (c + 1, sh, [], [r], []) := fun r sh => ⟨by show c < c + 1; omega, by show 1 ≤ c + 1 - c + _; omega, by show 4 * 0 ≤ _; omega⟩
    by_cases k3 : (T c).1 = 3
    · rw [if_pos k3] at h; cases h; exact one _ _
    rw [if_neg k3] at h
    by_cases k4 : (T c).1 = 4
    · rw [if_pos k4] at h; cases h; exact one _ _
    rw [if_neg k4] at h
    by_cases k11 : (T c).1 = 11
    · rw [if_pos k11] at h; cases h; exact one _ _
    rw [if_neg k11] at h
    by_cases k12 : (T c).1 = 12
    · rw [if_pos k12] at h; cases h; exact one _ _
    rw [if_neg k12] at h
    by_cases k14 : (T c).1 = 14
    · rw [if_pos k14] at h
      cases hd : pKind T (c + 1) with
      | inl e => rw [hd] at h; cases h
      | inr c' =>
        rw [hd] at h
        have := pKind_len hd
        cases h
        exact ⟨by show c < c'; omega, by show 1 ≤ c' - c + _; omega, by show 4 * 1 ≤ c' - c; omega⟩
    rw [if_neg k14] at h
    by_cases k40 : (T c).1 = 40
    · rw [if_pos k40] at h
      by_cases g2 : o = 12
      · rw [if_pos g2] at h; cases h
      · rw [if_neg g2] at h
        cases hd : prE T M f 0 (o + 1) (c + 1) kq with
        | inl e => rw [hd] at h; cases h
        | inr z =>
          rw [hd] at h
          obtain ⟨a1, a2, a3⟩ := ih 0 (o + 1) (c + 1) kq z (by omega) hd
          simp only [show ¬ (0 : Nat) = 6 by decide, if_false] at a2
          by_cases g3 : (T z.1).1 = 41
          · simp only [if_pos g3] at h
            cases h
            refine ⟨?_, ?_, ?_⟩
            · show c < z.1 + 1; omega
            · simp only [List.length_append, List.length_singleton]; omega
            · show 4 * z.2.2.1.length ≤ z.1 + 1 - c; omega
          · simp only [if_neg g3] at h; cases h
    · rw [if_neg k40] at h; cases h
  | f + 1, 6, o, c, kq, y, _, h => by
    have ih := prE_len f
    rw [prE_6] at h
    unfold pCall at h
    by_cases g2 : o = 12
    · rw [if_pos g2] at h; cases h
    · rw [if_neg g2] at h
      by_cases g3 : (T (c + 1)).1 = 41
      · rw [if_pos g3] at h
        cases h
        exact ⟨by show c < c + 2; omega, by show 2 ≤ c + 2 - c + _; omega, by show 4 * 0 ≤ _; omega⟩
      · rw [if_neg g3] at h
        cases hd : pArgs T (prE T M f 0 (o + 1)) kq 7 0 (c + 1, 0, [], [], []) with
        | inl e => rw [hd] at h; cases h
        | inr w =>
          rw [hd] at h
          obtain ⟨a1, a2, a3⟩ := pArgs_len (c := c + 1) (fun c kq y hy => ih 0 (o + 1) c kq y (by omega) hy) 7 0 (c + 1, 0, [], [], []) w ⟨Nat.le_refl _, by show 0 ≤ _; omega, by show 4 * 0 ≤ _; omega⟩ hd
          cases h
          refine ⟨?_, ?_, ?_⟩
          · show c < w.2.1; omega
          · simp only [List.length_cons, List.length_append, List.length_nil, if_true]; omega
          · show 4 * w.2.2.2.1.length ≤ w.2.1 - c; omega
end MJ69
end
section
/-! ===== the reference: opens, closes, take; a KIND ===== -/
/-- bad: the FAULT e; m orders -/
def MZ (T : TT) (b : Nat) (s : mjSt3) (e : Nat × Nat) (m : Nat) : Prop := b ≤ 1 ∧ (e.1 = 1 ∨ e.1 = 2 ∨ e.1 = 3) ∧ s.1 97 61 = nI e.1 ∧ s.1 97 62 = (T e.2).2.1 ∧ s.1 97 63 = nI b ∧ s.1 122 b = nI m
section MJ70
variable {tx : Nat → Int32} {n b d k o : Nat} {s s' : mjSt3} {W : List WF} {os : List Row} {ks : List Nat}
theorem x_order (hb : b ≤ 1) (hB : s.1 97 63 = nI b) {m : Nat} (hO : s.1 122 b = nI m) (hl : m < 5000) (w p a c : Int32) : mjF (d + 1) 281 [.ref 97, .int w, .int p, .int a, .int c] (mjW0 s) = some (none, mjW0 (orS s (5000 * b + m) b m w p a c 0)) := by
  rw [e_281]
  unfold f_281 b_281_0
  rw [xg_97_63, hB, xg_97_33, xg_97_63, hB, xa_122, if_pos (mj_in_nI (by omega) (by decide)), nI_clamp (by omega), hO, idx5 hb, xg_97_54, xs_143, if_pos (mj_in_nI (by omega) (by decide)), nI_clamp (by omega), xg_97_55, xs_144, if_pos (mj_in_nI (by omega) (by decide)), nI_clamp (by omega), uI_ne _ _ _ _ (by decide), xg_97_56, xs_145, if_pos (mj_in_nI (by omega) (by decide)), nI_clamp (by omega), uI_ne _ _ _ _ (by decide), uI_ne _ _ _ _ (by decide), xg_97_57, xs_146, if_pos (mj_in_nI (by omega) (by decide)), nI_clamp (by omega), uI_ne _ _ _ _ (by decide), uI_ne _ _ _ _ (by decide), uI_ne _ _ _ _ (by decide), xg_97_58, xs_147, if_pos (mj_in_nI (by omega) (by decide)), nI_clamp (by omega), xg_97_33, xg_97_63, uL_i, uI_ne _ _ _ _ (by decide), uI_ne _ _ _ _ (by decide), uI_ne _ _ _ _ (by decide), uI_ne _ _ _ _ (by decide), hB, xa_122, if_pos (mj_in_nI (by omega) (by decide)), nI_clamp (by omega), uL_i, uI_ne _ _ _ _ (by decide), uI_ne _ _ _ _ (by decide), uI_ne _ _ _ _ (by decide), uI_ne _ _ _ _ (by decide), hO, nI_1, xs_122, if_pos (mj_in_nI (by omega) (by decide)), nI_clamp (by omega), uL_i, uI_ne _ _ _ _ (by decide), uI_ne _ _ _ _ (by decide), uI_ne _ _ _ _ (by decide), uI_ne _ _ _ _ (by decide)]
  rfl
/-- an order in a bad state -/
theorem z_order {T : TT} {e : Nat × Nat} {m : Nat} (h : MZ T b s e m) (hl : m < 5000) (w p a c : Int32) : ∃ s', mjF (d + 1) 281 [.ref 97, .int w, .int p, .int a, .int c] (mjW0 s) = some (none, mjW0 s') ∧ MZ T b s' e (m + 1) ∧ offE b s s' ∧ s'.1 97 = s.1 97 := by
  obtain ⟨h1, h2, h3, h4, h5, h6⟩ := h
  have f := orS_at (s := s) (i := 5000 * b + m) (b := b) (m := m) (w := w) (p := p) (a := a) (c := c) (nm := 0)
  have e97 := f.2.2.2.2.2.2.1 97 (by omega) (by omega)
  refine ⟨_, x_order h1 h5 h6 hl w p a c, ⟨h1, h2, ?_, ?_, ?_, ?_⟩, orS_off hl, e97⟩
  · rw [e97, h3]
  · rw [e97, h4]
  · rw [e97, h5]
  · rw [f.2.2.2.2.2.1, up_same]
theorem MR.z (h : MR tx n b s k o W os ks) {e : Nat × Nat} (he : e.1 = 1 ∨ e.1 = 2 ∨ e.1 = 3) : MZ (mTT tx n) b (bS s (nI e.1) ((mTT tx n) e.2).2.1) e os.length := by
  have f := bS_at (s := s) (nI e.1) ((mTT tx n) e.2).2.1
  refine ⟨h.2.1.1, he, f.1, f.2.1, ?_, ?_⟩
  · rw [f.2.2.1 63 (by decide) (by decide)]; exact h.2.1.2.2.1
  · rw [f.2.2.2.1 122 (by decide)]; exact h.2.2.2.1.1
theorem MZ.w {T : TT} {e : Nat × Nat} {m j : Nat} {v : Int32} (h : MZ T b s e m) (hj : j = 64 ∨ j = 76 ∨ j = 77 ∨ j = 67 ∨ j = 71) : MZ T b (uI s 97 (upd (s.1 97) j v)) e m := by
  obtain ⟨h1, h2, h3, h4, h5, h6⟩ := h
  refine ⟨h1, h2, ?_, ?_, ?_, ?_⟩
  · rw [uI_same, upd_g, if_neg (by omega), h3]
  · rw [uI_same, upd_g, if_neg (by omega), h4]
  · rw [uI_same, upd_g, if_neg (by omega), h5]
  · rw [uI_ne _ _ _ _ (by decide), h6]
theorem MZ.n0 {T : TT} {e : Nat × Nat} {m : Nat} (h : MZ T b s e m) : ¬ s.1 97 61 = 0 := by
  rw [h.2.2.1]; exact in_n0 h.2.1
theorem MZ.pos {T : TT} {e : Nat × Nat} {m : Nat} (h : MZ T b s e m) : ¬ s.1 97 61 ≤ 0 := by
  rw [h.2.2.1]
  have := h.2.1
  exact nI_nle (by omega) (by omega)
/-- wrong() -/
theorem m_wrong (h : MR tx n b s k o W os ks) : mjF (d + 2) 269 [.ref 97] (mjW0 s) = some (none, mjW0 (bS s (nI (F2 (mTT tx n) k).1) ((mTT tx n) (F2 (mTT tx n) k).2).2.1)) := v_wrong h.at h.2.1.2.1
theorem m_wz (h : MR tx n b s k o W os ks) : MZ (mTT tx n) b (bS s (nI (F2 (mTT tx n) k).1) ((mTT tx n) (F2 (mTT tx n) k).2).2.1) (F2 (mTT tx n) k) os.length := h.z (F2_in _ _)
/-- take(c) -/
theorem m_take (h : MR tx n b s k o W os ks) {c : Int32} (hc : c ∈ sgM) (e : (mTT tx n k).1 = c) : ∃ s', mjF (d + 4) 270 [.ref 97, .int c] (mjW0 s) = some (none, mjW0 s') ∧ MR tx n b s' (k + 1) o W os ks ∧ offE b s s' ∧ s'.1 97 77 = s.1 97 77 := by
  have h1 : ¬ (mTT tx n k).1 = 1 := by rw [e]; exact (sg_ok hc).2.2.1
  obtain ⟨s', a1, a2, a3, a4⟩ := m_next (d := d) h h1
  refine ⟨s', ?_, a2, a3, a4⟩
  rw [e_270]
  unfold f_270 b_270_0
  rw [xV_97, v_sign h.at hc, bI_s, i01, if_pos e, xV_97, a1, bN_s]
theorem m_takeB (h : MR tx n b s k o W os ks) {c : Int32} (hc : c ∈ sgM) (e : ¬ (mTT tx n k).1 = c) : mjF (d + 4) 270 [.ref 97, .int c] (mjW0 s) = some (none, mjW0 (bS s (nI (F2 (mTT tx n) k).1) ((mTT tx n) (F2 (mTT tx n) k).2).2.1)) := by
  rw [e_270]
  unfold f_270 b_270_0
  rw [xV_97, v_sign h.at hc, bI_s, i01, if_neg e, xV_97, m_wrong h, bN_s]
/-- opens(c) -/
theorem m_opens (h : MR tx n b s k o W os ks) {c : Int32} (hc : c ∈ sgM) (e : (mTT tx n k).1 = c) (ho : o < 12) : ∃ s', mjF (d + 4) 274 [.ref 97, .int c] (mjW0 s) = some (none, mjW0 s') ∧ MR tx n b s' (k + 1) (o + 1) W os ks ∧ offE b s s' ∧ s'.1 97 77 = s.1 97 77 := by
  have h1 : ¬ (mTT tx n k).1 = 1 := by rw [e]; exact (sg_ok hc).2.2.1
  have hO : s.1 97 64 = nI o := h.2.1.2.2.2
  have h2 := h.w64 (o + 1)
  obtain ⟨s', a1, a2, a3, a4⟩ := m_next (d := d) h2 h1
  refine ⟨s', ?_, a2, (w97_off (by omega)).tr a3, ?_⟩
  · rw [e_274]
    unfold f_274 b_274_0 b_274_41
    rw [xV_97, v_sign h.at hc, bI_s, i01, if_pos e, xg_97_64, hO, nI_1, xp_97_64, xg_97_64, uI_same, up_same, if_pos (show nI (o + 1) ≤ 12 from nI_le (b := 12) (by omega) (by omega)), xV_97, a1, bN_s]
  · rw [a4, uI_same]; exact if_neg (by decide)
theorem m_opens2 (h : MR tx n b s k o W os ks) {c : Int32} (hc : c ∈ sgM) (e : ¬ (mTT tx n k).1 = c) : mjF (d + 4) 274 [.ref 97, .int c] (mjW0 s) = some (none, mjW0 (bS s (nI (F2 (mTT tx n) k).1) ((mTT tx n) (F2 (mTT tx n) k).2).2.1)) := by
  rw [e_274]
  unfold f_274 b_274_0
  rw [xV_97, v_sign h.at hc, bI_s, i01, if_neg e, xV_97, m_wrong h, bN_s]
theorem m_opens3 (h : MR tx n b s k 12 W os ks) {c : Int32} (hc : c ∈ sgM) (e : (mTT tx n k).1 = c) : ∃ s', mjF (d + 4) 274 [.ref 97, .int c] (mjW0 s) = some (none, mjW0 s') ∧ MZ (mTT tx n) b s' (3, k) os.length ∧ offE b s s' := by
  have h1 : ¬ (mTT tx n k).1 = 1 := by rw [e]; exact (sg_ok hc).2.2.1
  have hO : s.1 97 64 = nI 12 := h.2.1.2.2.2
  have h2 := h.w64 13
  have f := bS_at (s := uI s 97 (upd (s.1 97) 64 (nI 13))) 3 (mTT tx n k).2.1
  have hm : MB tx n (bS (uI s 97 (upd (s.1 97) 64 (nI 13))) 3 (mTT tx n k).2.1) := by
    have := h2.1.1
    unfold MB at this ⊢
    rw [f.2.2.1 2 (by decide) (by decide), f.2.2.2.1 98 (by decide), f.2.2.2.2]; exact this
  have ht : MT tx n k (bS (uI s 97 (upd (s.1 97) 64 (nI 13))) 3 (mTT tx n k).2.1) := by
    have := h2.1.2
    unfold MT at this ⊢
    rw [f.2.2.1 3 (by decide) (by decide), f.2.2.1 4 (by decide) (by decide), f.2.2.1 5 (by decide) (by decide), f.2.2.1 6 (by decide) (by decide), f.2.2.2.2]; exact this
  obtain ⟨s', a1, _, r⟩ := x_mt (d := d) hm ht h1
  have z := h2.z (e := (3, k)) (Or.inr (Or.inr rfl))
  refine ⟨s', ?_, ⟨z.1, z.2.1, ?_, ?_, ?_, ?_⟩, ((w97_off (j := 64) (by omega)).tr (bS_off 3 (mTT tx n k).2.1)).tr r.E⟩
  · rw [e_274]
    unfold f_274 b_274_0 b_274_41
    rw [xV_97, v_sign h.at hc, bI_s, i01, if_pos e, xg_97_64, hO, nI_1, xp_97_64, xg_97_64, uI_same, up_same, if_neg (show ¬ nI (12 + 1) ≤ 12 from nI_ge (a := 12) (by omega) (by omega)), xg_97_4, h2.at.2.2.1, xV_97, v_fail h2.2.1.2.1, bN_s, xV_97, a1, bN_s]
  · rw [r.2.1 61 (by decide) (by decide) (by decide) (by decide)]; exact z.2.2.1
  · rw [r.2.1 62 (by decide) (by decide) (by decide) (by decide)]; exact z.2.2.2.1
  · rw [r.2.1 63 (by decide) (by decide) (by decide) (by decide)]; exact z.2.2.2.2.1
  · rw [r.1 122 (by decide)]; exact z.2.2.2.2.2
/-- closes(c) -/
theorem m_closes (h : MR tx n b s k (o + 1) W os ks) {c : Int32} (hc : c ∈ sgM) (e : (mTT tx n k).1 = c) : ∃ s', mjF (d + 4) 278 [.ref 97, .int c] (mjW0 s) = some (none, mjW0 s') ∧ MR tx n b s' (k + 1) o W os ks ∧ offE b s s' ∧ s'.1 97 77 = s.1 97 77 := by
  have h1 : ¬ (mTT tx n k).1 = 1 := by rw [e]; exact (sg_ok hc).2.2.1
  have hO : s.1 97 64 = nI (o + 1) := h.2.1.2.2.2
  have h2 := h.w64 o
  obtain ⟨s', a1, a2, a3, a4⟩ := m_next (d := d) h2 h1
  refine ⟨s', ?_, a2, (w97_off (by omega)).tr a3, ?_⟩
  · rw [e_278]
    unfold f_278 b_278_0
    rw [xV_97, v_sign h.at hc, bI_s, i01, if_pos e, xg_97_64, hO, nI_pred, xp_97_64, xV_97, a1, bN_s]
  · rw [a4, uI_same]; exact if_neg (by decide)
theorem m_closesB (h : MR tx n b s k o W os ks) {c : Int32} (hc : c ∈ sgM) (e : ¬ (mTT tx n k).1 = c) : mjF (d + 4) 278 [.ref 97, .int c] (mjW0 s) = some (none, mjW0 (bS s (nI (F2 (mTT tx n) k).1) ((mTT tx n) (F2 (mTT tx n) k).2).2.1)) := by
  rw [e_278]
  unfold f_278 b_278_0
  rw [xV_97, v_sign h.at hc, bI_s, i01, if_neg e, xV_97, m_wrong h, bN_s]
end MJ70
end
section
/-! ===== the reference reads a KIND ===== -/
/-- what may change while the KIND number g is read -/
def chK (b g h j : Nat) : Prop := (h = 97 ∧ (j = 3 ∨ j = 4 ∨ j = 5 ∨ j = 6)) ∨ (h = 121 ∧ j = b) ∨ ((h = 137 ∨ h = 138) ∧ j = g) ∨ (h = 141 ∧ 5 * g ≤ j ∧ j < 5 * g + 5)
def chKL (g h j : Nat) : Prop := (h = 97 ∧ j = 7) ∨ (h = 136 ∧ j = g) ∨ (h = 140 ∧ 5 * g ≤ j ∧ j < 5 * g + 5)
def offK2 (b g : Nat) : mjSt3 → mjSt3 → Prop := offG (chK b g) (chKL g)
theorem offK2.E {b m : Nat} {s s' : mjSt3} (h : offK2 b (800 * b + m) s s') (hm : m < 800) : offE b s s' :=
  offG.mono h (fun x y q => by
  rcases q with q | q | q | q
  · rcases q.2 with e | e | e | e
    · exact Or.inl ⟨q.1, Or.inl e⟩
    · exact Or.inl ⟨q.1, Or.inr (Or.inl e)⟩
    · exact Or.inl ⟨q.1, Or.inr (Or.inr (Or.inl e))⟩
    · exact Or.inl ⟨q.1, Or.inr (Or.inr (Or.inr (Or.inl e)))⟩
  · exact Or.inr (Or.inl ⟨Or.inl q.1, q.2⟩)
  · exact Or.inr (Or.inr (Or.inl ⟨q.1, by omega, by omega⟩))
  · exact Or.inr (Or.inr (Or.inr (Or.inl ⟨q.1, by omega, by omega⟩)))) (fun x y q => by
  rcases q with q | q | q
  · exact Or.inl q
  · exact Or.inr (Or.inl ⟨q.1, by omega, by omega⟩)
  · exact Or.inr (Or.inr (Or.inl ⟨q.1, by omega, by omega⟩)))
theorem offN.K2 {b g : Nat} {s s' : mjSt3} (h : offN s s') : offK2 b g s s' := by
  refine ⟨fun x j n => ?_, fun x j n => ?_, h.2.2.2.2⟩
  · by_cases e : x = 97
    · subst e
      exact h.2.1 j (fun q => n (by unfold chK; omega)) (fun q => n (by unfold chK; omega)) (fun q => n (by unfold chK; omega)) (fun q => n (by unfold chK; omega))
    · rw [h.1 x e]
  · by_cases e : x = 97
    · subst e
      exact h.2.2.2.1 j (fun q => n (by unfold chKL; omega))
    · rw [h.2.2.1 x e]
/-- while KIND g, at token t, is read: j OWNERS are there, the cursor at c -/
def KP (tx : Nat → Int32) (n b g t j : Nat) (s z : mjSt3) (c : Nat) : Prop := MB tx n z ∧ MT tx n c z ∧ z.1 97 61 = 0 ∧ offK2 b g s z ∧ z.2.1 136 g = (mTT tx n t).2.2.1 ∧ z.1 137 g = (mTT tx n t).2.1 ∧ z.1 138 g = nI j ∧ (∀ i, i < j → z.2.1 140 (5 * g + i) = owR (mTT tx n) (t + 2 + 2 * i) ∧ z.1 141 (5 * g + i) = (mTT tx n (t + 2 + 2 * i)).2.1) ∧ z.1 121 b = s.1 121 b + 1
section MJ71
variable {tx : Nat → Int32} {n b d k o g t j c : Nat} {s z : mjSt3} {W : List WF} {os : List Row} {ks : List Nat}
theorem KP.at (h : KP tx n b g t j s z c) : AT (mTT tx n) c z := h.2.1.at h.1.2.2.2.1
theorem KP.next (h : KP tx n b g t j s z c) (hk : ¬ (mTT tx n c).1 = 1) : ∃ z', mjF (d + 3) 262 [.ref 97] (mjW0 z) = some (none, mjW0 z') ∧ KP tx n b g t j s z' (c + 1) := by
  obtain ⟨h1, h2, h3, h4, h5, h6, h7, h8, h9⟩ := h
  obtain ⟨z', e, m, r⟩ := x_mt (d := d) h1 h2 hk
  refine ⟨z', e, h1.off r, m, ?_, h4.tr r.K2, ?_, ?_, ?_, fun i hi => ?_, (by rw [r.1 121 (by decide)]; exact h9)⟩
  · rw [r.2.1 61 (by decide) (by decide) (by decide) (by decide), h3]
  · rw [r.2.2.1 136 (by decide), h5]
  · rw [r.1 137 (by decide), h6]
  · rw [r.1 138 (by decide), h7]
  · rw [r.2.2.1 140 (by decide), r.1 141 (by decide)]; exact h8 i hi
theorem MR.kind (h : MR tx n b s k o W os ks) (hm : ks.length < 800) (p : KP tx n b (800 * b + ks.length) t (cntO (mTT tx n) 6 (t + 2)) s z c) (h5 : cntO (mTT tx n) 6 (t + 2) ≤ 5) : MR tx n b z c o W os (ks ++ [t]) := by
  obtain ⟨⟨a1, a2⟩, ⟨b1, b2, b3, b4⟩, ⟨c1, c2⟩, ⟨d1, d2⟩, e1, e2⟩ := h
  obtain ⟨h1, h2, h3, r, p5, p6, p7, p8, hc⟩ := p
  rw [e1, nI_1] at hc
  have q : ∀ x y, ¬ chK b (800 * b + ks.length) x y → z.1 x y = s.1 x y := r.1
  have l : ∀ x y, ¬ chKL (800 * b + ks.length) x y → z.2.1 x y = s.2.1 x y := r.2.1
  refine ⟨⟨h1, h2⟩, ⟨b1, h3, ?_, ?_⟩, ⟨?_, fun i f hf => ?_⟩, ⟨?_, fun i x hx => ?_⟩, ?_, fun i u hu => ?_⟩
  · rw [q 97 63 (by unfold chK; omega), b3]
  · rw [q 97 64 (by unfold chK; omega), b4]
  · rw [q 97 76 (by unfold chK; omega), c1]
  · unfold Wt
    rw [q 151 i (by unfold chK; omega), q 152 i (by unfold chK; omega), q 153 i (by unfold chK; omega), q 154 i (by unfold chK; omega), q 182 i (by unfold chK; omega)]
    exact c2 i f hf
  · rw [q 122 b (by unfold chK; omega), d1]
  · unfold Rw
    rw [q 143 _ (by unfold chK; omega), q 144 _ (by unfold chK; omega), q 145 _ (by unfold chK; omega), q 146 _ (by unfold chK; omega), l 147 _ (by unfold chKL; omega)]
    exact d2 i x hx
  · rw [hc, List.length_append]; rfl
  · by_cases hl : i < ks.length
    · rw [List.getElem?_append_left hl] at hu
      obtain ⟨k0, k1, k2, k3, k4⟩ := e2 i u hu
      refine ⟨k0, ?_, ?_, ?_, fun x hx => ?_⟩
      · rw [l 136 _ (by unfold chKL; omega), k1]
      · rw [q 137 _ (by unfold chK; omega), k2]
      · rw [q 138 _ (by unfold chK; omega), k3]
      · have c1 : ¬ chKL (800 * b + ks.length) 140 (5 * (800 * b + i) + x) := by unfold chKL; omega
        have c2 : ¬ chK b (800 * b + ks.length) 141 (5 * (800 * b + i) + x) := by unfold chK; omega
        rw [l 140 _ c1, q 141 _ c2]
        exact k4 x hx
    · have hu' := (List.getElem?_eq_some_iff.mp hu).1
      rw [List.length_append, List.length_singleton] at hu'
      have e : i = ks.length := by omega
      subst e
      rw [List.getElem?_append_right (Nat.le_refl _), Nat.sub_self] at hu
      have e2' : t = u := by simpa using hu
      subst e2'
      exact ⟨h5, p5, p6, p7, p8⟩
/-- one OWNER more -/
theorem KP.own (h : KP tx n b g t j s z c) (hj : j < 5) (hg : g < 1600) (hc : c = t + 2 + 2 * j) : KP tx n b g t (j + 1) s (uI (uI (uL z 140 (vp_updL (z.2.1 140) (5 * g + j) (owR (mTT tx n) c))) 141 (upd (z.1 141) (5 * g + j) (mTT tx n c).2.1)) 138 (upd (z.1 138) g (nI (j + 1)))) c := by
  obtain ⟨h1, h2, h3, h4, h5, h6, h7, h8, h9⟩ := h
  have o1 : offK2 b g z (uL z 140 (vp_updL (z.2.1 140) (5 * g + j) (owR (mTT tx n) c))) := offG.wl (by unfold chKL; omega)
  have o2 : offK2 b g (uL z 140 (vp_updL (z.2.1 140) (5 * g + j) (owR (mTT tx n) c))) (uI (uL z 140 (vp_updL (z.2.1 140) (5 * g + j) (owR (mTT tx n) c))) 141 (upd (z.1 141) (5 * g + j) (mTT tx n c).2.1)) := offG.w (by unfold chK; omega)
  have o3 : offK2 b g (uI (uL z 140 (vp_updL (z.2.1 140) (5 * g + j) (owR (mTT tx n) c))) 141 (upd (z.1 141) (5 * g + j) (mTT tx n c).2.1)) (uI (uI (uL z 140 (vp_updL (z.2.1 140) (5 * g + j) (owR (mTT tx n) c))) 141 (upd (z.1 141) (5 * g + j) (mTT tx n c).2.1)) 138 (upd ((uI (uL z 140 (vp_updL (z.2.1 140) (5 * g + j) (owR (mTT tx n) c))) 141 (upd (z.1 141) (5 * g + j) (mTT tx n c).2.1)).1 138) g (nI (j + 1)))) := offG.w (by unfold chK; omega)
  rw [uI_ne _ _ _ _ (show ¬ 138 = 141 by decide), uL_i] at o3
  refine ⟨?_, ?_, ?_, (h4.tr (o1.tr o2)).tr o3, ?_, ?_, ?_, fun i hi => ?_, (by rw [uI_ne _ _ _ _ (by decide), uI_ne _ _ _ _ (by decide), uL_i]; exact h9)⟩
  · unfold MB at h1 ⊢
    rw [uI_ne _ _ _ _ (by decide), uI_ne _ _ _ _ (by decide), uI_ne _ _ _ _ (by decide), uI_ne _ _ _ _ (by decide), uL_i, uI_l, uI_l, uL_ne _ _ _ _ (by decide)]; exact h1
  · unfold MT at h2 ⊢
    rw [uI_ne _ _ _ _ (by decide), uI_ne _ _ _ _ (by decide), uL_i, uI_l, uI_l, uL_ne _ _ _ _ (by decide)]; exact h2
  · rw [uI_ne _ _ _ _ (by decide), uI_ne _ _ _ _ (by decide), uL_i, h3]
  · rw [uI_l, uI_l, uL_ne _ _ _ _ (by decide), h5]
  · rw [uI_ne _ _ _ _ (by decide), uI_ne _ _ _ _ (by decide), uL_i, h6]
  · rw [uI_same, up_same]
  · rw [uI_l, uI_l, uL_same, uI_ne _ _ _ _ (by decide), uI_same, updL_g, upd_g]
    by_cases e : i = j
    · subst e
      rw [if_pos rfl, if_pos rfl, hc]
      exact ⟨rfl, rfl⟩
    · rw [if_neg (by omega), if_neg (by omega)]
      exact h8 i (by omega)
end MJ71
end
section
/-! ===== the reference reads a KIND, whole ===== -/
section MJ72
variable {tx : Nat → Int32} {n b d k o g t j c : Nat} {s z : mjSt3} {W : List WF} {os : List Row} {ks : List Nat}
theorem L272_S (R : mjR) (q : Nat) (a : Nat) (x y : Int32) (hp : mjH) : L_272_96 R (q + 1) a x y hp = b_272_96 R (L_272_96 R q) a x y hp := rfl
/-- bad, out of a KIND that is read -/
theorem KP.bad (h : KP tx n b g t j s z c) (m : MR tx n b s k o W os ks) {e : Nat × Nat} (he : e.1 = 1 ∨ e.1 = 2 ∨ e.1 = 3) : MZ (mTT tx n) b (bS z (nI e.1) ((mTT tx n) e.2).2.1) e os.length := by
  have f := bS_at (s := z) (nI e.1) ((mTT tx n) e.2).2.1
  have r := h.2.2.2.1
  refine ⟨m.2.1.1, he, f.1, f.2.1, ?_, ?_⟩
  · rw [f.2.2.1 63 (by decide) (by decide), r.1 97 63 (by unfold chK; omega)]; exact m.2.1.2.2.1
  · rw [f.2.2.2.1 122 (by decide), r.1 122 b (by unfold chK; omega)]; exact m.2.2.2.1.1
/-- the loop is left in a bad state -/
theorem z_k96 {T : TT} {e : Nat × Nat} {m : Nat} (h : MZ T b z e m) (q : Nat) (x : Int32) : L_272_96 (mjF d) (q + 1) 97 x 0 (mjW0 z) = some (some (.int x), mjW0 z) := by
  rw [L272_S]
  unfold b_272_96 b_272_283
  rw [if_pos rfl, xg_97_61, if_neg h.n0]
theorem z_162 {T : TT} {e : Nat × Nat} {m : Nat} (h : MZ T b z e m) (k96 : Nat → Int32 → Int32 → mjH → mjU) (x : Int32) : b_272_162 (mjF d) k96 97 x (mjW0 z) = some (some (.int (-1)), mjW0 z) := by
  unfold b_272_162
  rw [xg_97_61, if_neg h.pos]
theorem i5k {g j : Nat} : (5 : Int32) * nI g + nI j = nI (5 * g + j) := by rw [show (5 : Int32) = nI 5 from rfl, pk_mul, nI_add]
/-- an OWNER is put, then , is asked -/
theorem k_162 (h : KP tx n b g t j s z c) (hj : j < 5) (hg : g < 1600) (hc : c = t + 2 + 2 * j) (ho : (mTT tx n c).1 = 12 ∨ (mTT tx n c).1 = 13 ∨ (mTT tx n c).1 = 3) (k96 : Nat → Int32 → Int32 → mjH → mjU) : ∃ z', KP tx n b g t (j + 1) s z' (c + 1) ∧ b_272_162 (mjF (d + 4)) k96 97 (nI g) (mjW0 z) = (rV (mjW0 z') 97 12 (bI (mjF (d + 4) 271 [.ref 97, .int 44] (mjW0 z')) (fun v11 hp12 => (if v11 = 0 then b_272_267 (mjF (d + 4)) k96 97 (nI g) v11 hp12 else rV hp12 97 12 (bN (mjF (d + 4) 262 [.ref 97] hp12) (fun  hp13 => b_272_267 (mjF (d + 4)) k96 97 (nI g) v11 hp13)))))) := by
  have A := h.at
  have S := v_srt A
  have h1 : ¬ (mTT tx n c).1 = 1 := by rcases ho with e | e | e <;> rw [e] <;> decide
  obtain ⟨z', e1, p1⟩ := (h.own hj hg hc).next (d := d + 1) h1
  refine ⟨z', p1, ?_⟩
  have hcnt : z.1 138 g = nI j := h.2.2.2.2.2.2.1
  have hat : z.1 97 4 = (mTT tx n c).2.1 := A.2.2.1
  have tail : b_272_218 (mjF (d + 4)) k96 97 (nI g) 140 (nI (5 * g + j)) (owR (mTT tx n) c) (mjW0 z) = (rV (mjW0 z') 97 12 (bI (mjF (d + 4) 271 [.ref 97, .int 44] (mjW0 z')) (fun v11 hp12 => (if v11 = 0 then b_272_267 (mjF (d + 4)) k96 97 (nI g) v11 hp12 else rV hp12 97 12 (bN (mjF (d + 4) 262 [.ref 97] hp12) (fun  hp13 => b_272_267 (mjF (d + 4)) k96 97 (nI g) v11 hp13)))))) := by
    unfold b_272_218
    rw [xs_140, if_pos (mj_in_nI (by omega) (by decide)), nI_clamp (by omega), xg_97_52, xg_97_49, xa_138, if_pos (mj_in_nI hg (by decide)), nI_clamp (by omega), uL_i, hcnt, xg_97_4, uL_i, hat, i5k, xs_141, if_pos (mj_in_nI (by omega) (by decide)), nI_clamp (by omega), uL_i, xg_97_49, xa_138, if_pos (mj_in_nI hg (by decide)), nI_clamp (by omega), uI_ne _ _ _ _ (by decide), uL_i, hcnt, nI_1, xs_138, if_pos (mj_in_nI hg (by decide)), nI_clamp (by omega), uI_ne _ _ _ _ (by decide), uL_i, xV_97, e1, bN_s]
  unfold b_272_162
  rw [xg_97_61, h.2.2.1, if_pos (show (0 : Int32) ≤ 0 by decide), xg_97_51, xg_97_49, xa_138, if_pos (mj_in_nI hg (by decide)), nI_clamp (by omega), hcnt, i5k, xg_97_3]
  have w8 : mjF (d + 4) 266 [.ref 97, .int 8] (mjW0 z) = _ := v_word (d := d + 3) A (w := 7) (by decide)
  by_cases e3 : (mTT tx n c).1 = 3
  · rw [if_pos (S.2.1.mpr e3), xg_97_7, A.2.2.2.2 (Or.inr e3)]
    have : owR (mTT tx n) c = (mTT tx n c).2.2.1 := if_pos e3
    rw [← this]
    exact tail
  · rw [if_neg (fun q => e3 (S.2.1.mp q)), xV_97, w8, bI_s, i01]
    by_cases e12 : (mTT tx n c).1 = 12
    · rw [if_pos (show (mTT tx n c).1 = nI (7 + 5) from e12)]
      have : owR (mTT tx n) c = -2 := by unfold owR; rw [if_neg e3, if_pos e12]
      rw [← this]
      exact tail
    · rw [if_neg (show ¬ (mTT tx n c).1 = nI (7 + 5) from e12)]
      have : owR (mTT tx n) c = -1 := by unfold owR; rw [if_neg e3, if_neg e12]
      rw [← this]
      exact tail
theorem k_own (m : MR tx n b s k o W os ks) (hg : g < 1600) : ∀ (f j c q : Nat) (z : mjSt3), f + j = 6 → j ≤ 5 → c = t + 2 + 2 * j → f < q → KP tx n b g t j s z c → match pOwn (mTT tx n) f j c with
    | .inl e => ∃ z' v, L_272_96 (mjF (d + 5)) q 97 (nI g) 1 (mjW0 z) = some (some (.int v), mjW0 z') ∧ MZ (mTT tx n) b z' e os.length ∧ offG (fun h j => chK b g h j ∨ (h = 97 ∧ (j = 61 ∨ j = 62))) (chKL g) s z'
    | .inr c' => j + cntO (mTT tx n) f c ≤ 5 ∧ ∃ z', L_272_96 (mjF (d + 5)) q 97 (nI g) 1 (mjW0 z) = some (some (.int (nI g)), mjW0 z') ∧ KP tx n b g t (j + cntO (mTT tx n) f c) s z' c' := by
  intro f
  induction f with
  | zero => intro j c q z hf hj; omega
  | succ f ih =>
    intro j c q z hf hj hc hq p
    obtain ⟨q, rfl⟩ : ∃ x, q = x + 2 := ⟨q - 2, by omega⟩
    have A := p.at
    have S := v_srt A
    have w8 : mjF (d + 5) 266 [.ref 97, .int 8] (mjW0 z) = _ := v_word (d := d + 4) A (w := 7) (by decide)
    have w9 : mjF (d + 5) 266 [.ref 97, .int 9] (mjW0 z) = _ := v_word (d := d + 4) A (w := 8) (by decide)
    have om : ∀ (x y : Int32), offG (fun h j => chK b g h j ∨ (h = 97 ∧ (j = 61 ∨ j = 62))) (chKL g) s (bS z x y) := by
      intro x y
      have a : offG (fun h j => chK b g h j ∨ (h = 97 ∧ (j = 61 ∨ j = 62))) (chKL g) s z := offG.mono p.2.2.2.1 (fun _ _ q => Or.inl q) (fun _ _ q => q)
      have fb := bS_at (s := z) x y
      refine a.tr (offG_of (fun h j w => ?_) fb.2.2.2.2)
      by_cases e : h = 97
      · subst e
        exact fb.2.2.1 j (fun q => w (Or.inr ⟨rfl, Or.inl q⟩)) (fun q => w (Or.inr ⟨rfl, Or.inr q⟩))
      · rw [fb.2.2.2.1 h e]
    rw [L272_S]
    unfold b_272_96 pOwn
    rw [if_neg (show ¬ (1 : Int32) = 0 by decide), xg_97_3]
    have good : (mTT tx n c).1 = 12 ∨ (mTT tx n c).1 = 13 ∨ (mTT tx n c).1 = 3 → match (if j = 5 then .inl (3, c) else if (mTT tx n (c + 1)).1 = 44 then pOwn (mTT tx n) f (j + 1) (c + 2) else if (mTT tx n (c + 1)).1 = 93 then .inr (c + 2) else .inl (F2 (mTT tx n) (c + 1)) : (Nat × Nat) ⊕ Nat) with
        | .inl e => ∃ z' v, b_272_126 (mjF (d + 5)) (L_272_96 (mjF (d + 5)) (q + 1)) 97 (nI g) (mjW0 z) = some (some (.int v), mjW0 z') ∧ MZ (mTT tx n) b z' e os.length ∧ offG (fun h j => chK b g h j ∨ (h = 97 ∧ (j = 61 ∨ j = 62))) (chKL g) s z'
        | .inr c' => j + cntO (mTT tx n) (f + 1) c ≤ 5 ∧ ∃ z', b_272_126 (mjF (d + 5)) (L_272_96 (mjF (d + 5)) (q + 1)) 97 (nI g) (mjW0 z) = some (some (.int (nI g)), mjW0 z') ∧ KP tx n b g t (j + cntO (mTT tx n) (f + 1) c) s z' c' := by
      intro ho
      have h1 : ¬ (mTT tx n c).1 = 1 := by rcases ho with e | e | e <;> rw [e] <;> decide
      unfold b_272_126 b_272_131
      rw [if_neg (show ¬ (1 : Int32) = 0 by decide), xg_97_49, xa_138, if_pos (mj_in_nI hg (by decide)), nI_clamp (by omega), p.2.2.2.2.2.2.1]
      by_cases j5 : j = 5
      · subst j5
        rw [if_pos rfl, if_pos (show nI 5 = 5 from rfl), xg_97_4, A.2.2.1, xV_97, v_fail p.2.2.1, bN_s]
        have zz := p.bad m (e := (3, c)) (Or.inr (Or.inr rfl))
        refine ⟨_, _, z_162 (d := d + 5) (z := bS z 3 (mTT tx n c).2.1) zz _ _, zz, om _ _⟩
      · rw [if_neg j5, if_neg (show ¬ nI j = 5 from fun e => j5 ((nI_eq (a := j) (b := 5) (by omega) (by omega)).mp e))]
        obtain ⟨z1, p1, e1⟩ := k_162 (d := d + 1) p (by omega) hg hc ho (L_272_96 (mjF (d + 5)) (q + 1))
        rw [e1, xV_97, v_sign p1.at (by decide), bI_s, i01]
        by_cases h44 : (mTT tx n (c + 1)).1 = 44
        · obtain ⟨z2, e2, p2⟩ := p1.next (d := d + 2) (by rw [h44]; decide)
          rw [if_pos h44, xV_97, e2, bN_s, if_pos h44]
          unfold b_272_267
          have r := ih (j + 1) (c + 2) (q + 1) z2 (by omega) (by omega) (by omega) (by omega) p2
          have ec : cntO (mTT tx n) (f + 1) c = cntO (mTT tx n) f (c + 2) + 1 := if_pos h44
          simp only [if_pos h44]
          rw [ec, show j + (cntO (mTT tx n) f (c + 2) + 1) = j + 1 + cntO (mTT tx n) f (c + 2) by omega]
          exact r
        · rw [if_neg h44, if_neg h44]
          unfold b_272_267
          have ec : cntO (mTT tx n) (f + 1) c = 1 := if_neg h44
          simp only [if_neg h44]
          rw [L272_S]
          unfold b_272_96 b_272_283
          rw [if_pos rfl, xg_97_61, p1.2.2.1, if_pos rfl, xV_97]
          by_cases h93 : (mTT tx n (c + 1)).1 = 93
          · obtain ⟨z2, e2, p2⟩ := p1.next (d := d + 1) (by rw [h93]; decide)
            simp only [if_pos h93]
            rw [ec]
            refine ⟨by omega, z2, ?_, p2⟩
            rw [e_270]
            unfold f_270 b_270_0
            rw [xV_97, v_sign p1.at (by decide), bI_s, i01, if_pos h93, xV_97, e2, bN_s, bN_s]
          · simp only [if_neg h93]
            have zz := p1.bad m (e := F2 (mTT tx n) (c + 1)) (F2_in _ _)
            refine ⟨_, nI g, ?_, zz, ?_⟩
            · rw [e_270]
              unfold f_270 b_270_0
              rw [xV_97, v_sign p1.at (by decide), bI_s, i01, if_neg h93, xV_97, v_wrong p1.at p1.2.2.1, bN_s, bN_s]
            · have a : offG (fun h j => chK b g h j ∨ (h = 97 ∧ (j = 61 ∨ j = 62))) (chKL g) s z1 := offG.mono p1.2.2.2.1 (fun _ _ q => Or.inl q) (fun _ _ q => q)
              have fb := bS_at (s := z1) (nI (F2 (mTT tx n) (c + 1)).1) ((mTT tx n) (F2 (mTT tx n) (c + 1)).2).2.1
              refine a.tr (offG_of (fun h j w => ?_) fb.2.2.2.2)
              by_cases e : h = 97
              · subst e
                exact fb.2.2.1 j (fun q => w (Or.inr ⟨rfl, Or.inl q⟩)) (fun q => w (Or.inr ⟨rfl, Or.inr q⟩))
              · rw [fb.2.2.2.1 h e]
    by_cases e3 : (mTT tx n c).1 = 3
    · rw [if_pos (S.2.1.mpr e3), if_pos (Or.inr (Or.inr e3))]
      exact good (Or.inr (Or.inr e3))
    rw [if_neg (fun q => e3 (S.2.1.mp q)), xV_97, w8, bI_s, i01]
    by_cases e12 : (mTT tx n c).1 = 12
    · rw [if_pos (show (mTT tx n c).1 = nI (7 + 5) from e12), if_pos (Or.inl e12)]
      exact good (Or.inl e12)
    rw [if_neg (show ¬ (mTT tx n c).1 = nI (7 + 5) from e12), xV_97, w9, bI_s, i01]
    by_cases e13 : (mTT tx n c).1 = 13
    · rw [if_pos (show (mTT tx n c).1 = nI (8 + 5) from e13), if_pos (Or.inr (Or.inl e13))]
      exact good (Or.inr (Or.inl e13))
    rw [if_neg (show ¬ (mTT tx n c).1 = nI (8 + 5) from e13), if_neg (show ¬ ((mTT tx n c).1 = 12 ∨ (mTT tx n c).1 = 13 ∨ (mTT tx n c).1 = 3) from fun q => q.elim e12 (fun q => q.elim e13 e3))]
    unfold b_272_131
    have zz := p.bad m (e := F2 (mTT tx n) c) (F2_in _ _)
    rw [if_pos rfl, xV_97, v_wrong A p.2.2.1, bN_s]
    exact ⟨_, _, z_162 (d := d + 5) zz _ _, zz, om _ _⟩
end MJ72
end
section
/-! ===== readKind ===== -/
section MJ73
variable {tx : Nat → Int32} {n b d k o g t j c : Nat} {s z : mjSt3} {W : List WF} {os : List Row} {ks : List Nat}
/-- a KIND's rows are begun -/
def kbS (s : mjSt3) (b g m : Nat) (nm : Int64) (at_ : Int32) : mjSt3 := uI (uI (uL (uI s 121 (upd (s.1 121) b (nI (m + 1)))) 136 (vp_updL (s.2.1 136) g nm)) 137 (upd (s.1 137) g at_)) 138 (upd (s.1 138) g 0)
theorem kbS_p (h : MR tx n b s k o W os ks) (hm : ks.length < 800) : KP tx n b (800 * b + ks.length) k 0 s (kbS s b (800 * b + ks.length) ks.length (mTT tx n k).2.2.1 (mTT tx n k).2.1) k := by
  obtain ⟨⟨a1, a2⟩, ⟨b1, b2, b3, b4⟩, _, _, e1, _⟩ := h
  unfold kbS
  generalize 800 * b + ks.length = g
  have o1 : offK2 b g s (uI s 121 (upd (s.1 121) b (nI (ks.length + 1)))) := offG.w (by unfold chK; omega)
  have o2 : offK2 b g (uI s 121 (upd (s.1 121) b (nI (ks.length + 1)))) (uL (uI s 121 (upd (s.1 121) b (nI (ks.length + 1)))) 136 (vp_updL (s.2.1 136) g (mTT tx n k).2.2.1)) := offG.wl (s := uI s 121 (upd (s.1 121) b (nI (ks.length + 1)))) (by unfold chKL; omega)
  have o3 : offK2 b g (uL (uI s 121 (upd (s.1 121) b (nI (ks.length + 1)))) 136 (vp_updL (s.2.1 136) g (mTT tx n k).2.2.1)) (uI (uL (uI s 121 (upd (s.1 121) b (nI (ks.length + 1)))) 136 (vp_updL (s.2.1 136) g (mTT tx n k).2.2.1)) 137 (upd ((uL (uI s 121 (upd (s.1 121) b (nI (ks.length + 1)))) 136 (vp_updL (s.2.1 136) g (mTT tx n k).2.2.1)).1 137) g (mTT tx n k).2.1)) := offG.w (by unfold chK; omega)
  rw [uL_i, uI_ne _ _ _ _ (show ¬ 137 = 121 by decide)] at o3
  have o4 : offK2 b g (uI (uL (uI s 121 (upd (s.1 121) b (nI (ks.length + 1)))) 136 (vp_updL (s.2.1 136) g (mTT tx n k).2.2.1)) 137 (upd (s.1 137) g (mTT tx n k).2.1)) (uI (uI (uL (uI s 121 (upd (s.1 121) b (nI (ks.length + 1)))) 136 (vp_updL (s.2.1 136) g (mTT tx n k).2.2.1)) 137 (upd (s.1 137) g (mTT tx n k).2.1)) 138 (upd ((uI (uL (uI s 121 (upd (s.1 121) b (nI (ks.length + 1)))) 136 (vp_updL (s.2.1 136) g (mTT tx n k).2.2.1)) 137 (upd (s.1 137) g (mTT tx n k).2.1)).1 138) g 0)) := offG.w (by unfold chK; omega)
  rw [uI_ne _ _ _ _ (show ¬ 138 = 137 by decide), uL_i, uI_ne _ _ _ _ (show ¬ 138 = 121 by decide)] at o4
  refine ⟨?_, ?_, ?_, ((o1.tr o2).tr o3).tr o4, ?_, ?_, ?_, fun i hi => by omega, ?_⟩
  · unfold MB at a1 ⊢
    rw [uI_ne _ _ _ _ (show ¬ 97 = 138 by decide), uI_ne _ _ _ _ (show ¬ 97 = 137 by decide), uL_i, uI_ne _ _ _ _ (show ¬ 97 = 121 by decide), uI_ne _ _ _ _ (show ¬ 98 = 138 by decide), uI_ne _ _ _ _ (show ¬ 98 = 137 by decide), uL_i, uI_ne _ _ _ _ (show ¬ 98 = 121 by decide), uI_l, uI_l, uL_ne _ _ _ _ (show ¬ 99 = 136 by decide)]; exact a1
  · unfold MT at a2 ⊢
    rw [uI_ne _ _ _ _ (show ¬ 97 = 138 by decide), uI_ne _ _ _ _ (show ¬ 97 = 137 by decide), uL_i, uI_ne _ _ _ _ (show ¬ 97 = 121 by decide), uI_l, uI_l, uL_ne _ _ _ _ (show ¬ 97 = 136 by decide)]; exact a2
  · rw [uI_ne _ _ _ _ (show ¬ 97 = 138 by decide), uI_ne _ _ _ _ (show ¬ 97 = 137 by decide), uL_i, uI_ne _ _ _ _ (show ¬ 97 = 121 by decide), b2]
  · rw [uI_l, uI_l, uL_same, updL_g, if_pos rfl]
  · rw [uI_ne _ _ _ _ (show ¬ 137 = 138 by decide), uI_same, up_same]
  · rw [uI_same, up_same]; rfl
  · rw [uI_ne _ _ _ _ (show ¬ 121 = 138 by decide), uI_ne _ _ _ _ (show ¬ 121 = 137 by decide), uL_i, uI_same, up_same, e1, nI_1]
theorem i800 {b m : Nat} : (800 : Int32) * nI b + nI m = nI (800 * b + m) := by rw [show (800 : Int32) = nI 800 from rfl, pk_mul, nI_add]
theorem offKz {g m : Nat} {s s' : mjSt3} (hg : g = 800 * b + m) (hm : m < 800) (h : offG (fun h j => chK b g h j ∨ (h = 97 ∧ (j = 61 ∨ j = 62))) (chKL g) s s') : offE b s s' :=
  offG.mono h (fun x y q => by
  rcases q with (q | q | q | q) | q
  · rcases q.2 with e | e | e | e
    · exact Or.inl ⟨q.1, Or.inl e⟩
    · exact Or.inl ⟨q.1, Or.inr (Or.inl e)⟩
    · exact Or.inl ⟨q.1, Or.inr (Or.inr (Or.inl e))⟩
    · exact Or.inl ⟨q.1, Or.inr (Or.inr (Or.inr (Or.inl e)))⟩
  · exact Or.inr (Or.inl ⟨Or.inl q.1, q.2⟩)
  · exact Or.inr (Or.inr (Or.inl ⟨q.1, by omega, by omega⟩))
  · exact Or.inr (Or.inr (Or.inr (Or.inl ⟨q.1, by omega, by omega⟩)))
  · rcases q.2 with e | e
    · exact Or.inl ⟨q.1, Or.inr (Or.inr (Or.inr (Or.inr (Or.inl e))))⟩
    · exact Or.inl ⟨q.1, Or.inr (Or.inr (Or.inr (Or.inr (Or.inr (Or.inl e)))))⟩) (fun x y q => by
  rcases q with q | q | q
  · exact Or.inl q
  · exact Or.inr (Or.inl ⟨q.1, by omega, by omega⟩)
  · exact Or.inr (Or.inr (Or.inl ⟨q.1, by omega, by omega⟩)))
/-- bad behind a KIND: waits and shape are as they were -/
def bkR (b : Nat) (s s' : mjSt3) : Prop := offE b s s' ∧ s'.1 97 76 = s.1 97 76
theorem m_kind (h : MR tx n b s k o W os ks) (hm : ks.length < 790) : match pKind (mTT tx n) k with
    | .inl e => ∃ s' v, mjF (d + 6) 272 [.ref 97] (mjW0 s) = some (some (.int v), mjW0 s') ∧ MZ (mTT tx n) b s' e os.length ∧ bkR b s s'
    | .inr c' => ∃ s', mjF (d + 6) 272 [.ref 97] (mjW0 s) = some (some (.int (nI (800 * b + ks.length))), mjW0 s') ∧ MR tx n b s' c' o W os (ks ++ [k]) ∧ offE b s s' ∧ s'.1 97 77 = s.1 97 77 := by
  have hb := h.2.1.1
  have A := h.at
  have S := v_srt A
  have hB : s.1 97 63 = nI b := h.2.1.2.2.1
  have hK : s.1 121 b = nI ks.length := h.2.2.2.2.1
  rw [e_272]
  unfold f_272 b_272_0 b_272_95 pKind
  rw [xg_97_3]
  by_cases h2 : (mTT tx n k).1 = 2
  · have p0 := kbS_p h (by omega)
    obtain ⟨z1, e1, p1⟩ := p0.next (d := d + 2) (by rw [h2]; decide)
    rw [if_pos (S.1.mpr h2), if_pos h2, xg_97_63, hB, xg_97_32, xg_97_63, hB, xa_121, if_pos (mj_in_nI (by omega) (by decide)), nI_clamp (by omega), hK, i800, xg_97_32, xg_97_63, hB, xa_121, if_pos (mj_in_nI (by omega) (by decide)), nI_clamp (by omega), hK, nI_1, xs_121, if_pos (mj_in_nI (by omega) (by decide)), nI_clamp (by omega), xg_97_47, xg_97_7, uI_l, A.2.2.2.2 (Or.inl h2), xs_136, if_pos (mj_in_nI (by omega) (by decide)), nI_clamp (by omega), uI_l, xg_97_48, xg_97_4, uL_i, uI_ne _ _ _ _ (show ¬ 97 = 121 by decide), A.2.2.1, xs_137, if_pos (mj_in_nI (by omega) (by decide)), nI_clamp (by omega), uL_i, uI_ne _ _ _ _ (show ¬ 137 = 121 by decide), xg_97_49, xs_138, if_pos (mj_in_nI (by omega) (by decide)), nI_clamp (by omega), uI_ne _ _ _ _ (show ¬ 138 = 137 by decide), uL_i, uI_ne _ _ _ _ (show ¬ 138 = 121 by decide), xV_97]
    rw [show mjF (d + 5) 262 [.ref 97] (mjW0 (uI (uI (uL (uI s 121 (upd (s.1 121) b (nI (ks.length + 1)))) 136 (vp_updL (s.2.1 136) (800 * b + ks.length) (mTT tx n k).2.2.1)) 137 (upd (s.1 137) (800 * b + ks.length) (mTT tx n k).2.1)) 138 (upd (s.1 138) (800 * b + ks.length) 0))) = _ from e1, bN_s, xV_97]
    by_cases h91 : (mTT tx n (k + 1)).1 = 91
    · obtain ⟨z2, e2, p2⟩ := p1.next (d := d + 1) (by rw [h91]; decide)
      have t91 : mjF (d + 5) 270 [.ref 97, .int 91] (mjW0 z1) = some (none, mjW0 z2) := by
        rw [e_270]
        unfold f_270 b_270_0
        rw [xV_97, v_sign p1.at (by decide), bI_s, i01, if_pos h91, xV_97, e2, bN_s]
      rw [t91, bN_s, xg_97_61, p2.2.2.1, if_pos rfl, if_pos h91]
      have r := k_own (d := d) h (g := 800 * b + ks.length) (t := k) (by omega) 6 0 (k + 2) mjN z2 (by omega) (by omega) (by omega) (by unfold mjN; omega) p2
      cases hd : pOwn (mTT tx n) 6 0 (k + 2) with
      | inl e =>
        rw [hd] at r
        obtain ⟨z', v, r1, r2, r3⟩ := r
        exact ⟨z', v, r1, r2, offKz rfl (by omega) r3, r3.1 97 76 (by unfold chK; omega)⟩
      | inr c' =>
        rw [hd] at r
        obtain ⟨r0, z', r1, r2⟩ := r
        rw [Nat.zero_add] at r0 r2
        exact ⟨z', r1, h.kind (by omega) r2 r0, offK2.E r2.2.2.2.1 (by omega), r2.2.2.2.1.1 97 77 (by unfold chK; omega)⟩
    · have t91 : mjF (d + 5) 270 [.ref 97, .int 91] (mjW0 z1) = some (none, mjW0 (bS z1 (nI (F2 (mTT tx n) (k + 1)).1) ((mTT tx n) (F2 (mTT tx n) (k + 1)).2).2.1)) := by
        rw [e_270]
        unfold f_270 b_270_0
        rw [xV_97, v_sign p1.at (by decide), bI_s, i01, if_neg h91, xV_97, v_wrong p1.at p1.2.2.1, bN_s]
      have zz := p1.bad h (e := F2 (mTT tx n) (k + 1)) (F2_in _ _)
      rw [t91, bN_s, xg_97_61, if_neg zz.n0, if_neg h91, show mjN = 99999999 + 1 from rfl]
      have fb := bS_at (s := z1) (nI (F2 (mTT tx n) (k + 1)).1) ((mTT tx n) (F2 (mTT tx n) (k + 1)).2).2.1
      refine ⟨_, _, z_k96 zz _ _, zz, (offK2.E p1.2.2.2.1 (by omega)).tr (bS_off _ _), ?_⟩
      rw [fb.2.2.1 76 (by decide) (by decide)]
      exact p1.2.2.2.1.1 97 76 (by unfold chK; omega)
  · rw [if_neg (fun q => h2 (S.1.mp q)), if_neg h2, xV_97, m_wrong h, bN_s]
    exact ⟨_, _, rfl, m_wz h, bS_off _ _, (bS_at _ _).2.2.1 76 (by decide) (by decide)⟩
end MJ73
end
section
/-! ===== the reference's readE: its rounds ===== -/
section MJ74
variable {tx : Nat → Int32} {n b D k o q l m : Nat} {s s' : mjSt3} {W : List WF} {os : List Row} {ks : List Nat}
/-- the loop of readE; readBehind in its middle: while - waits, while operators wait -/
noncomputable def lE (D m : Nat) (w : Int32) (s : mjSt3) : mjU := L_287_18 (mjF (D + 1)) m 97 w (mjW0 s)
noncomputable def mQ (D m q : Nat) (s : mjSt3) : mjU := bI (L_291_53 (mjF D) q 97 (mjW0 s)) (fun v hp => L_287_18 (mjF (D + 1)) m 97 v hp)
noncomputable def m1Q (D m q l : Nat) (s : mjSt3) : mjU := bI (L_291_118 (mjF D) q 97 (nI l) (mjW0 s)) (fun v hp => L_287_18 (mjF (D + 1)) m 97 v hp)
theorem L287_S (R : mjR) (m : Nat) (a : Nat) (x : Int32) (hp : mjH) : L_287_18 R (m + 1) a x hp = b_287_18 R (L_287_18 R m) a x hp := rfl
theorem L53_S (R : mjR) (m : Nat) (a : Nat) (hp : mjH) : L_291_53 R (m + 1) a hp = b_291_53 R (L_291_53 R m) a hp := rfl
theorem L118_S (R : mjR) (m : Nat) (a : Nat) (x : Int32) (hp : mjH) : L_291_118 R (m + 1) a x hp = b_291_118 R (L_291_118 R m) a x hp := rfl
/-- what waits on top -/
theorem MR.top {f : WF} (h : MR tx n b s k o (W ++ [f]) os ks) : Wt s W.length f ∧ s.1 97 76 = nI (W.length + 1) := by
  refine ⟨h.2.2.1.2 W.length f (by rw [List.getElem?_append_right (Nat.le_refl _), Nat.sub_self]; rfl), ?_⟩
  have := h.2.2.1.1
  rw [List.length_append] at this
  exact this
theorem lE_z {T : TT} {e : Nat × Nat} {x : Nat} (h : MZ T b s e x) (w : Int32) : lE D (m + 1) w s = some (none, mjW0 s) := by
  unfold lE
  rw [L287_S]
  unfold b_287_18
  rw [xg_97_61, if_neg h.n0]
/-- readAtom's turn -/
theorem lE_1 {f : WF} (h : MR tx n b s k o (W ++ [f]) os ks) (hl : W.length < 64) : lE D (m + 1) 1 s = bI (mjF (D + 1) 289 [.ref 97] (mjW0 s)) (fun v hp => L_287_18 (mjF (D + 1)) m 97 v hp) := by
  unfold lE
  rw [L287_S]
  unfold b_287_18
  rw [xg_97_61, h.2.1.2.1, if_pos rfl, xg_97_76, h.top.2, if_neg (nI_nle (by omega) (by omega)), if_neg (show ¬ (1 : Int32) = 0 by decide), xV_97]
theorem lE_0 {f : WF} (h : MR tx n b s k o (W ++ [f]) os ks) (hl : W.length < 64) : lE D (m + 1) 0 s = bI (mjF (D + 1) 291 [.ref 97] (mjW0 s)) (fun v hp => L_287_18 (mjF (D + 1)) m 97 v hp) := by
  unfold lE
  rw [L287_S]
  unfold b_287_18
  rw [xg_97_61, h.2.1.2.1, if_pos rfl, xg_97_76, h.top.2, if_neg (nI_nle (by omega) (by omega)), if_pos rfl, xV_97]
/-- behind a POST -/
theorem lE_mid {f : WF} (h : MR tx n b s k o (W ++ [f]) os ks) (hl : W.length < 64) (h46 : ¬ (mTT tx n k).1 = 46) (h20 : ¬ (mTT tx n k).1 = 20) : lE (D + 1) (m + 1) 0 s = mQ (D + 1) m mjN s := by
  have w16 : mjF (D + 1) 266 [.ref 97, .int 16] (mjW0 s) = _ := v_word (d := D) h.at (w := 15) (by decide)
  rw [lE_0 h hl, e_291]
  unfold f_291 b_291_0 mQ
  rw [xV_97, v_sign h.at (by decide), bI_s, i01, if_neg h46, xV_97, w16, bI_s, i01, if_neg (show ¬ (mTT tx n k).1 = nI (15 + 5) from h20)]
theorem pk1 {x : Nat} : nI (x + 1) - (1 : Int32) = nI x := nI_pred x
/-- a - is taken off -/
theorem mQ_minus {w2 : Int32} {w3 : Int32} {w4 w5 : Int32} (h : MR tx n b s k (o + 1) (W ++ [(2, w2, w3, w4, w5)]) os ks) (hl : W.length < 64) (ho : os.length < 4990) : ∃ s', (∀ m q, mQ (D + 1) m (q + 1) s = mQ (D + 1) m q s') ∧ MR tx n b s' k o W (os ++ [(8, w3, 0, 0, 0)]) ks ∧ offE b s s' ∧ s'.1 97 77 = 0 := by
  have t := h.top
  have a1 := h.pop
  have e1 : (uI s 97 (upd (s.1 97) 76 (nI W.length))).1 97 64 = nI (o + 1) := a1.2.1.2.2.2
  have a2 := a1.w64 o
  obtain ⟨s3, e3, a3, r3, f3⟩ := m_order (d := D) a2 ho 8 w3 0 0
  have a4 := a3.w97 (j := 77) (v := 0) (by omega)
  refine ⟨_, fun m q => ?_, a4, ((w97_off (by omega)).tr (w97_off (by omega))).tr (r3.tr (w97_off (by omega))), ?_⟩
  · unfold mQ
    rw [L53_S]
    unfold b_291_53
    rw [xg_97_72, xg_97_76, t.2, pk1, xa_151, if_pos (mj_in_nI hl (by decide)), nI_clamp (by omega), t.1.1, if_pos rfl, xg_97_76, t.2, pk1, xp_97_76, xg_97_64, e1, pk1, xp_97_64, xg_97_74, xg_97_76, a2.2.2.1.1, xa_153, if_pos (mj_in_nI hl (by decide)), nI_clamp (by omega), uI_ne _ _ _ _ (show ¬ 153 = 97 by decide), uI_ne _ _ _ _ (show ¬ 153 = 97 by decide), t.1.2.2.1, xV_97, e3, bN_s, xp_97_77]
  · rw [uI_same, up_same]
/-- no - waits: the operators' turn -/
theorem mQ_1 {f : WF} (h : MR tx n b s k o (W ++ [f]) os ks) (hl : W.length < 64) (hf : ¬ f.1 = 2) : mQ (D + 1) m (q + 1) s = m1Q (D + 1) m mjN (lvl (mTT tx n k).1) s := by
  have t := h.top
  unfold mQ m1Q
  rw [L53_S]
  unfold b_291_53
  rw [xg_97_72, xg_97_76, t.2, pk1, xa_151, if_pos (mj_in_nI hl (by decide)), nI_clamp (by omega), t.1.1, if_neg hf, xV_97, v_level h.at, bI_s]
/-- the rank of an operator that waits -/
def lvO (x : Int32) : Nat := if x = 43 ∨ x = 45 then 2 else if x = 42 ∨ x = 47 ∨ x = 37 then 3 else 1
theorem v_lvO {hp : mjH} {d : Nat} (x : Int32) : mjF (d + 1) 296 [.int x] hp = some (some (.int (nI (lvO x))), hp) := by
  rw [e_296]
  unfold f_296 b_296_0 b_296_12 b_296_34 lvO
  by_cases a : x = 43
  · rw [if_pos a, if_pos (Or.inl a)]; rfl
  by_cases b : x = 45
  · rw [if_neg a, if_pos b, if_pos (Or.inr b)]; rfl
  rw [if_neg a, if_neg b, if_neg (show ¬ (x = 43 ∨ x = 45) from fun q => q.elim a b)]
  by_cases c : x = 42
  · rw [if_pos c, if_pos (Or.inl c)]; rfl
  by_cases e : x = 47
  · rw [if_neg c, if_pos e, if_pos (Or.inr (Or.inl e))]; rfl
  by_cases f : x = 37
  · rw [if_neg c, if_neg e, if_pos f, if_pos (Or.inr (Or.inr f))]; rfl
  rw [if_neg c, if_neg e, if_neg f, if_neg (fun q => q.elim c (fun q => q.elim e f))]; rfl
theorem lvO_le (x : Int32) : 1 ≤ lvO x ∧ lvO x ≤ 3 := by
  unfold lvO
  by_cases a : x = 43 ∨ x = 45
  · rw [if_pos a]; omega
  · rw [if_neg a]
    by_cases c : x = 42 ∨ x = 47 ∨ x = 37
    · rw [if_pos c]; omega
    · rw [if_neg c]; omega
theorem maxI {l : Nat} (hl : l ≤ 3) : (if (1 : Int32) ≤ nI l then nI l else 1) = nI (max l 1) := by
  by_cases h : 1 ≤ l
  · rw [if_pos (show (1 : Int32) ≤ nI l from nI_le (a := 1) h (by omega)), Nat.max_eq_left h]
  · have : l = 0 := by omega
    subst this
    rfl
/-- an operator that waits is taken off -/
theorem m1Q_two {w2 w3 w4 w5 : Int32} (h : MR tx n b s k o (W ++ [(3, w2, w3, w4, w5)]) os ks) (hl : W.length < 64) (ho : os.length < 4990) (hq : l ≤ 3) (hv : max l 1 ≤ lvO w2) (hn : ¬ (l = 1 ∧ lvO w2 = 1)) : ∃ s', (∀ m q, m1Q (D + 1) m (q + 1) l s = m1Q (D + 1) m q l s') ∧ MR tx n b s' k o W (os ++ [(9, w3, w2, 0, 0)]) ks ∧ offE b s s' ∧ s'.1 97 77 = 0 := by
  have t := h.top
  have L := lvO_le w2
  have a1 := h.pop
  obtain ⟨s3, e3, a3, r3, f3⟩ := m_order (d := D) a1 ho 9 w3 w2 0
  have a4 := a3.w97 (j := 77) (v := 0) (by omega)
  refine ⟨_, fun m q => ?_, a4, (w97_off (by omega)).tr (r3.tr (w97_off (by omega))), ?_⟩
  · have tail : b_291_178 (mjF (D + 1)) (L_291_118 (mjF (D + 1)) q) 97 (nI l) (mjW0 s) = L_291_118 (mjF (D + 1)) q 97 (nI l) (mjW0 (uI s3 97 (upd (s3.1 97) 77 0))) := by
      unfold b_291_178
      rw [xg_97_76, t.2, pk1, xp_97_76, xg_97_74, xg_97_76, uI_same, up_same, xa_153, if_pos (mj_in_nI hl (by decide)), nI_clamp (by omega), uI_ne _ _ _ _ (by decide), t.1.2.2.1, xg_97_73, xg_97_76, uI_same, up_same, xa_152, if_pos (mj_in_nI hl (by decide)), nI_clamp (by omega), uI_ne _ _ _ _ (by decide), t.1.2.1, xV_97, e3, bN_s, xp_97_77]
    unfold m1Q
    rw [L118_S]
    unfold b_291_118
    rw [xg_97_72, xg_97_76, t.2, pk1, xa_151, if_pos (mj_in_nI hl (by decide)), nI_clamp (by omega), t.1.1, if_pos rfl, xg_97_73, xg_97_76, t.2, pk1, xa_152, if_pos (mj_in_nI hl (by decide)), nI_clamp (by omega), t.1.2.1]
    rw [show ((3 : Int32), w2, w3, w4, w5).2.1 = w2 from rfl, v_lvO, bI_s, q_max, bI_s, maxI hq, if_neg (nI_nlt (a := lvO w2) hv (by omega))]
    by_cases l1 : l = 1
    · subst l1
      have n1 : ¬ lvO w2 = 1 := fun e => hn ⟨rfl, e⟩
      rw [if_pos (show nI 1 = 1 from rfl), xg_97_73, xg_97_76, t.2, pk1, xa_152, if_pos (mj_in_nI hl (by decide)), nI_clamp (by omega), t.1.2.1, show ((3 : Int32), w2, w3, w4, w5).2.1 = w2 from rfl, v_lvO, bI_s, if_neg (show ¬ nI (lvO w2) = 1 from fun e => n1 ((nI_eq (a := lvO w2) (b := 1) (by omega) (by omega)).mp e)), tail]
    · rw [if_neg (show ¬ nI l = 1 from fun e => l1 ((nI_eq (a := l) (b := 1) (by omega) (by omega)).mp e)), tail]
  · rw [uI_same, up_same]
/-- nothing more is taken off -/
theorem m1Q_go {f : WF} (h : MR tx n b s k o (W ++ [f]) os ks) (hl : W.length < 64) (hq : l ≤ 3) (hn : ¬ f.1 = 3 ∨ lvO f.2.1 < max l 1 ∨ (l = 1 ∧ lvO f.2.1 = 1)) : m1Q (D + 1) m (q + 1) l s = bI (b_291_221 (mjF (D + 1)) 97 (nI l) (mjW0 s)) (fun v hp => L_287_18 (mjF (D + 2)) m 97 v hp) := by
  have t := h.top
  have L := lvO_le f.2.1
  have e : b_291_118 (mjF (D + 1)) (L_291_118 (mjF (D + 1)) q) 97 (nI l) (mjW0 s) = b_291_221 (mjF (D + 1)) 97 (nI l) (mjW0 s) := by
    unfold b_291_118
    rw [xg_97_72, xg_97_76, t.2, pk1, xa_151, if_pos (mj_in_nI hl (by decide)), nI_clamp (by omega), t.1.1]
    by_cases e3 : f.1 = 3
    · rw [if_pos e3, xg_97_73, xg_97_76, t.2, pk1, xa_152, if_pos (mj_in_nI hl (by decide)), nI_clamp (by omega), t.1.2.1, v_lvO, bI_s, q_max, bI_s, maxI hq]
      by_cases lt : lvO f.2.1 < max l 1
      · rw [if_pos (nI_lt lt (by omega))]
      · have c := (hn.resolve_left (fun q => q e3)).resolve_left lt
        rw [if_neg (nI_nlt (by omega) (by omega)), if_pos (show nI l = 1 by rw [c.1]; rfl), xg_97_73, xg_97_76, t.2, pk1, xa_152, if_pos (mj_in_nI hl (by decide)), nI_clamp (by omega), t.1.2.1, v_lvO, bI_s, if_pos (show nI (lvO f.2.1) = 1 by rw [c.2]; rfl)]
    · rw [if_neg e3]
  unfold m1Q
  rw [L118_S, e]
/-- an operator's sign is taken -/
theorem m1Q_push {f : WF} (h : MR tx n b s k o (W ++ [f]) os ks) (hl : W.length < 62) (hlv : lvl (mTT tx n k).1 = l) (h0 : 1 ≤ l) (hn : ¬ f.1 = 3 ∨ lvO f.2.1 < l) : ∃ s' x, (∀ m q, m1Q (D + 4) m (q + 1) l s = lE (D + 4) m 1 s') ∧ MR tx n b s' (k + 1) o (W ++ [f] ++ [(3, nbr (mTT tx n k).1 0, (mTT tx n k).2.1, 0, x)]) os ks ∧ offE b s s' ∧ s'.1 97 77 = s.1 97 77 := by
  have t := h.top
  have A := h.at
  have hq : l ≤ 3 := by
    rw [← hlv]
    unfold lvl
    by_cases a1 : isPro (mTT tx n k).1 = true
    · rw [if_pos a1]; omega
    · rw [if_neg a1]
      by_cases a2 : isSum (mTT tx n k).1 = true
      · rw [if_pos a2]; omega
      · rw [if_neg a2]
        by_cases a3 : isCmp (mTT tx n k).1 = true
        · rw [if_pos a3]; omega
        · rw [if_neg a3]; omega
  have L := lvO_le f.2.1
  have h1 : ¬ (mTT tx n k).1 = 1 := fun e => by rw [e] at hlv; have : lvl 1 = 0 := (by decide); omega
  have h4 : ¬ (mTT tx n k).1 = 4 := fun e => by rw [e] at hlv; have : lvl 4 = 0 := (by decide); omega
  have s4 : srt (mTT tx n k).1 = 4 := by
    have g : KL.all (fun K => decide (lvl K = 0) || decide (srt K = 4)) = true := by decide +kernel
    have g' := List.all_eq_true.mp g _ A.1
    simp only [Bool.or_eq_true, decide_eq_true_eq] at g'
    exact g'.resolve_left (by omega)
  obtain ⟨s2, x, e2, a2, r2, f2⟩ := m_waits (d := D + 3) h (by rw [List.length_append]; show W.length + 1 < 64; omega) 3 (nbr (mTT tx n k).1 0) (mTT tx n k).2.1 0
  obtain ⟨s3, e3, a3, r3, f3⟩ := m_next (d := D + 1) a2 h1
  refine ⟨s3, x, fun m q => ?_, a3, r2.tr r3, f3.trans f2⟩
  have e69 : b_291_269 (mjF (D + 4)) 97 (mjW0 s) = some (some (.int 1), mjW0 s3) := by
    unfold b_291_269
    rw [xg_97_6, A.2.2.2.1 (Or.inr (Or.inl s4)), nbr_0 h4, xg_97_4, A.2.2.1, xV_97, e2, bN_s, xV_97, e3, bN_s]
  rw [m1Q_go (D := D + 3) h (by omega) hq (by
    rcases hn with hn | hn
    · exact Or.inl hn
    · exact Or.inr (Or.inl (by omega)))]
  unfold b_291_221 lE
  rw [if_neg (nI_nle (by omega) (by omega)), xg_97_72, xg_97_76, t.2, pk1, xa_151, if_pos (mj_in_nI (by omega) (by decide)), nI_clamp (by omega), t.1.1]
  by_cases e3' : f.1 = 3
  · have lt := hn.resolve_left (fun q => q e3')
    rw [if_pos e3', xg_97_73, xg_97_76, t.2, pk1, xa_152, if_pos (mj_in_nI (by omega) (by decide)), nI_clamp (by omega), t.1.2.1, v_lvO, bI_s]
    by_cases c1 : nI (lvO f.2.1) = 1
    · have nl : ¬ nI l = 1 := fun e => by
        have := (nI_eq (a := l) (b := 1) (by omega) (by omega)).mp e
        omega
      rw [if_pos c1, if_neg nl, e69, bI_s]
    · rw [if_neg c1, e69, bI_s]
  · rw [if_neg e3', e69, bI_s]
/-- a second comparison -/
theorem m1Q_cmp {w2 w3 w4 w5 : Int32} (h : MR tx n b s k o (W ++ [(3, w2, w3, w4, w5)]) os ks) (hl : W.length < 64) (hv : lvO w2 = 1) : m1Q (D + 2) (m + 1) (q + 1) 1 s = some (none, mjW0 (bS s (nI (F2 (mTT tx n) k).1) ((mTT tx n) (F2 (mTT tx n) k).2).2.1)) := by
  have t := h.top
  rw [m1Q_go (D := D + 1) h hl (by omega) (Or.inr (Or.inr ⟨rfl, hv⟩))]
  unfold b_291_221
  rw [if_neg (show ¬ nI 1 ≤ 0 by decide), xg_97_72, xg_97_76, t.2, pk1, xa_151, if_pos (mj_in_nI hl (by decide)), nI_clamp (by omega), t.1.1, if_pos rfl, xg_97_73, xg_97_76, t.2, pk1, xa_152, if_pos (mj_in_nI hl (by decide)), nI_clamp (by omega), t.1.2.1, show ((3 : Int32), w2, w3, w4, w5).2.1 = w2 from rfl, v_lvO, bI_s, hv, if_pos (show nI 1 = 1 from rfl), if_pos (show nI 1 = 1 from rfl), xV_97, m_wrong h, bN_s, bI_s]
  have z := lE_z (D := D + 2) (m := m) (m_wz h) 0
  exact z
end MJ74
end
section
/-! ===== the reference: ATOMS, and what stands behind them ===== -/
section MJ75
variable {tx : Nat → Int32} {n b D k o q l m : Nat} {s s' : mjSt3} {W : List WF} {f : WF} {os : List Row} {ks : List Nat}
/-- one round goes from s to s' -/
def step1 (D : Nat) (w : Int32) (s : mjSt3) (w' : Int32) (s' : mjSt3) : Prop := ∀ m, lE D (m + 1) w s = lE D m w' s'
/-- no E begins here -/
theorem a_not (h : MR tx n b s k o (W ++ [f]) os ks) (hl : W.length < 64) (hv : isVal (mTT tx n k).1 = false) : ∀ m, lE (D + 8) (m + 2) 1 s = some (none, mjW0 (bS s (nI (F2 (mTT tx n) k).1) ((mTT tx n) (F2 (mTT tx n) k).2).2.1)) := by
  intro m
  rw [lE_1 h hl, e_289]
  unfold f_289 b_289_0
  rw [xV_97, v_begins h.at, bI_s, i01, hv, if_neg (show ¬ false = true by decide), xV_97, m_wrong h, bN_s, bI_s]
  exact lE_z (m_wz h) 1
theorem a_num (h : MR tx n b s k o (W ++ [f]) os ks) (hl : W.length < 64) (ho : os.length < 4990) (e : (mTT tx n k).1 = 4) : ∃ s', step1 (D + 8) 1 s 0 s' ∧ MR tx n b s' (k + 1) o (W ++ [f]) (os ++ [(3, (mTT tx n k).2.1, (mTT tx n k).2.2.2, 0, 0)]) ks ∧ offE b s s' ∧ s'.1 97 77 = 0 := by
  have A := h.at
  have S := v_srt A
  have hv : isVal (mTT tx n k).1 = true := by rw [e]; decide
  have a1 := h.w97 (j := 77) (v := 0) (by omega)
  obtain ⟨s2, e2, a2, r2, f2⟩ := m_order (d := D + 7) a1 ho 3 (mTT tx n k).2.1 (mTT tx n k).2.2.2 0
  obtain ⟨s3, e3, a3, r3, f3⟩ := m_next (d := D + 5) a2 (by rw [e]; decide)
  refine ⟨s3, fun m => ?_, a3, (w97_off (by omega)).tr (r2.tr r3), ?_⟩
  · have A1 := a1.at
    have S1 := v_srt A1
    have nb : (uI s 97 (upd (s.1 97) 77 0)).1 97 6 = (mTT tx n k).2.2.2 := by
      rw [A1.2.2.2.1 (Or.inl (by rw [← A1.2.1]; exact S1.2.2.1.mpr e)), e]; rfl
    rw [lE_1 h hl, e_289]
    unfold f_289 b_289_0 b_289_220
    rw [xV_97, v_begins A, bI_s, i01, hv, if_pos rfl, xV_97, v_sign A (by decide), bI_s, i01, if_neg (by rw [e]; decide), xV_97, v_sign A (by decide), bI_s, i01, if_neg (by rw [e]; decide), xp_97_77, xg_97_3, if_pos (S1.2.2.1.mpr e), xg_97_4, A1.2.2.1, xg_97_6, nb, xV_97, e2, bN_s, xV_97, e3, bN_s, bI_s]
    rfl
  · rw [f3, f2, uI_same, up_same]
theorem a_name (h : MR tx n b s k o (W ++ [f]) os ks) (hl : W.length < 64) (ho : os.length < 4990) (e : (mTT tx n k).1 = 3) : ∃ s', step1 (D + 8) 1 s 0 s' ∧ MR tx n b s' (k + 1) o (W ++ [f]) (os ++ [(6, (mTT tx n k).2.1, 0, 0, (mTT tx n k).2.2.1)]) ks ∧ offE b s s' ∧ s'.1 97 77 = 1 := by
  have A := h.at
  have hv : isVal (mTT tx n k).1 = true := by rw [e]; decide
  have a0 := h.w97 (j := 77) (v := 0) (by omega)
  have a1 := a0.w97 (j := 77) (v := 1) (by omega)
  obtain ⟨s2, e2, a2, r2, f2⟩ := m_orderName (d := D + 6) a1 ho 6 (mTT tx n k).2.1 0 (mTT tx n k).2.2.1
  obtain ⟨s3, e3, a3, r3, f3⟩ := m_next (d := D + 5) a2 (by rw [e]; decide)
  refine ⟨s3, fun m => ?_, a3, ((w97_off (by omega)).tr (w97_off (by omega))).tr (r2.tr r3), ?_⟩
  · have A0 := a0.at
    have S0 := v_srt A0
    have A1 := a1.at
    rw [lE_1 h hl, e_289]
    unfold f_289 b_289_0 b_289_220
    rw [xV_97, v_begins A, bI_s, i01, hv, if_pos rfl, xV_97, v_sign A (by decide), bI_s, i01, if_neg (by rw [e]; decide), xV_97, v_sign A (by decide), bI_s, i01, if_neg (by rw [e]; decide), xp_97_77, xg_97_3, if_neg (fun q => absurd ((S0.2.2.1.mp q).symm.trans e) (by decide)), xg_97_3, if_pos (S0.2.1.mpr e), xp_97_77, xg_97_4, A1.2.2.1, xg_97_7, A1.2.2.2.2 (Or.inr e), xV_97, e2, bN_s, xV_97, e3, bN_s, bI_s]
    rfl
  · rw [f3, f2, uI_same, up_same]
theorem a_null (h : MR tx n b s k o (W ++ [f]) os ks) (hl : W.length < 64) (ho : os.length < 4990) (e : (mTT tx n k).1 = 11) : ∃ s', step1 (D + 8) 1 s 0 s' ∧ MR tx n b s' (k + 1) o (W ++ [f]) (os ++ [(4, (mTT tx n k).2.1, 0, 0, 0)]) ks ∧ offE b s s' ∧ s'.1 97 77 = 0 := by
  have A := h.at
  have hv : isVal (mTT tx n k).1 = true := by rw [e]; decide
  have a1 := h.w97 (j := 77) (v := 0) (by omega)
  obtain ⟨s2, e2, a2, r2, f2⟩ := m_order (d := D + 7) a1 ho 4 (mTT tx n k).2.1 0 0
  obtain ⟨s3, e3, a3, r3, f3⟩ := m_next (d := D + 5) a2 (by rw [e]; decide)
  refine ⟨s3, fun m => ?_, a3, (w97_off (by omega)).tr (r2.tr r3), ?_⟩
  · have A1 := a1.at
    have S1 := v_srt A1
    have w7 : mjF (D + 8) 266 [.ref 97, .int 7] (mjW0 (uI s 97 (upd (s.1 97) 77 0))) = _ := v_word (d := D + 7) A1 (w := 6) (by decide)
    rw [lE_1 h hl, e_289]
    unfold f_289 b_289_0 b_289_220
    rw [xV_97, v_begins A, bI_s, i01, hv, if_pos rfl, xV_97, v_sign A (by decide), bI_s, i01, if_neg (by rw [e]; decide), xV_97, v_sign A (by decide), bI_s, i01, if_neg (by rw [e]; decide), xp_97_77, xg_97_3, if_neg (fun q => absurd ((S1.2.2.1.mp q).symm.trans e) (by decide)), xg_97_3, if_neg (fun q => absurd ((S1.2.1.mp q).symm.trans e) (by decide)), xV_97, w7, bI_s, i01, if_pos (show (mTT tx n k).1 = nI (6 + 5) from e), xg_97_4, A1.2.2.1, xV_97, e2, bN_s, xV_97, e3, bN_s, bI_s]
    rfl
  · rw [f3, f2, uI_same, up_same]
theorem a_this (h : MR tx n b s k o (W ++ [f]) os ks) (hl : W.length < 64) (ho : os.length < 4990) (e : (mTT tx n k).1 = 12) : ∃ s', step1 (D + 8) 1 s 0 s' ∧ MR tx n b s' (k + 1) o (W ++ [f]) (os ++ [(5, (mTT tx n k).2.1, 0, 0, 0)]) ks ∧ offE b s s' ∧ s'.1 97 77 = 0 := by
  have A := h.at
  have hv : isVal (mTT tx n k).1 = true := by rw [e]; decide
  have a1 := h.w97 (j := 77) (v := 0) (by omega)
  obtain ⟨s2, e2, a2, r2, f2⟩ := m_order (d := D + 7) a1 ho 5 (mTT tx n k).2.1 0 0
  obtain ⟨s3, e3, a3, r3, f3⟩ := m_next (d := D + 5) a2 (by rw [e]; decide)
  refine ⟨s3, fun m => ?_, a3, (w97_off (by omega)).tr (r2.tr r3), ?_⟩
  · have A1 := a1.at
    have S1 := v_srt A1
    have w7 : mjF (D + 8) 266 [.ref 97, .int 7] (mjW0 (uI s 97 (upd (s.1 97) 77 0))) = _ := v_word (d := D + 7) A1 (w := 6) (by decide)
    have w8 : mjF (D + 8) 266 [.ref 97, .int 8] (mjW0 (uI s 97 (upd (s.1 97) 77 0))) = _ := v_word (d := D + 7) A1 (w := 7) (by decide)
    rw [lE_1 h hl, e_289]
    unfold f_289 b_289_0 b_289_220
    rw [xV_97, v_begins A, bI_s, i01, hv, if_pos rfl, xV_97, v_sign A (by decide), bI_s, i01, if_neg (by rw [e]; decide), xV_97, v_sign A (by decide), bI_s, i01, if_neg (by rw [e]; decide), xp_97_77, xg_97_3, if_neg (fun q => absurd ((S1.2.2.1.mp q).symm.trans e) (by decide)), xg_97_3, if_neg (fun q => absurd ((S1.2.1.mp q).symm.trans e) (by decide)), xV_97, w7, bI_s, i01, if_neg (show ¬ (mTT tx n k).1 = nI (6 + 5) by rw [e]; decide), xV_97, w8, bI_s, i01, if_pos (show (mTT tx n k).1 = nI (7 + 5) from e), xg_97_4, A1.2.2.1, xV_97, e2, bN_s, xV_97, e3, bN_s, bI_s]
    rfl
  · rw [f3, f2, uI_same, up_same]
/-- new KIND -/
theorem a_new (h : MR tx n b s k o (W ++ [f]) os ks) (hl : W.length < 64) (ho : os.length < 4990) (hk : ks.length < 790) (e : (mTT tx n k).1 = 14) : match pKind (mTT tx n) (k + 1) with
    | .inl x => ∃ s', (∀ m, lE (D + 8) (m + 2) 1 s = some (none, mjW0 s')) ∧ MZ (mTT tx n) b s' x (os.length + 1) ∧ offE b s s'
    | .inr c' => ∃ s', step1 (D + 8) 1 s 0 s' ∧ MR tx n b s' c' o (W ++ [f]) (os ++ [(7, (mTT tx n k).2.1, nI (800 * b + ks.length), 0, 0)]) (ks ++ [k + 1]) ∧ offE b s s' ∧ s'.1 97 77 = 0 := by
  have A := h.at
  have hv : isVal (mTT tx n k).1 = true := by rw [e]; decide
  have a1 := h.w97 (j := 77) (v := 0) (by omega)
  obtain ⟨s2, e2, a2, r2, f2⟩ := m_next (d := D + 5) a1 (by rw [e]; decide)
  have A1 := a1.at
  have S1 := v_srt A1
  have w7 : mjF (D + 8) 266 [.ref 97, .int 7] (mjW0 (uI s 97 (upd (s.1 97) 77 0))) = _ := v_word (d := D + 7) A1 (w := 6) (by decide)
  have w8 : mjF (D + 8) 266 [.ref 97, .int 8] (mjW0 (uI s 97 (upd (s.1 97) 77 0))) = _ := v_word (d := D + 7) A1 (w := 7) (by decide)
  have pre : ∀ m, lE (D + 8) (m + 1) 1 s = bI (rV (mjW0 s2) 97 12 (bI (mjF (D + 8) 272 [.ref 97] (mjW0 s2)) (fun v16 hp17 => rV hp17 97 12 (bN (mjF (D + 8) 281 [.ref 97, .int 7, .int (mTT tx n k).2.1, .int v16, .int 0] hp17) (fun hp18 => some (some (.int 0), hp18)))))) (fun v hp => L_287_18 (mjF (D + 9)) m 97 v hp) := by
    intro m
    rw [lE_1 h hl, e_289]
    unfold f_289 b_289_0 b_289_220
    rw [xV_97, v_begins A, bI_s, i01, hv, if_pos rfl, xV_97, v_sign A (by decide), bI_s, i01, if_neg (by rw [e]; decide), xV_97, v_sign A (by decide), bI_s, i01, if_neg (by rw [e]; decide), xp_97_77, xg_97_3, if_neg (fun q => absurd ((S1.2.2.1.mp q).symm.trans e) (by decide)), xg_97_3, if_neg (fun q => absurd ((S1.2.1.mp q).symm.trans e) (by decide)), xV_97, w7, bI_s, i01, if_neg (show ¬ (mTT tx n k).1 = nI (6 + 5) by rw [e]; decide), xV_97, w8, bI_s, i01, if_neg (show ¬ (mTT tx n k).1 = nI (7 + 5) by rw [e]; decide), xg_97_4, A1.2.2.1, xV_97, e2, bN_s]
  have kd := m_kind (d := D + 2) a2 hk
  cases hd : pKind (mTT tx n) (k + 1) with
  | inl x =>
    rw [hd] at kd
    obtain ⟨s3, v, e3, z3, r3⟩ := kd
    obtain ⟨s4, e4, z4, r4, f4⟩ := z_order (d := D + 7) z3 (by omega) 7 (mTT tx n k).2.1 v 0
    refine ⟨s4, fun m => ?_, z4, (w97_off (by omega)).tr (r2.tr (r3.1.tr r4))⟩
    rw [pre, xV_97, e3, bI_s, xV_97, e4, bN_s, bI_s]
    exact lE_z z4 0
  | inr c' =>
    rw [hd] at kd
    obtain ⟨s3, e3, a3, r3, f3⟩ := kd
    obtain ⟨s4, e4, a4, r4, f4⟩ := m_order (d := D + 7) a3 ho 7 (mTT tx n k).2.1 (nI (800 * b + ks.length)) 0
    refine ⟨s4, fun m => ?_, a4, (w97_off (by omega)).tr (r2.tr (r3.tr r4)), ?_⟩
    · rw [pre, xV_97, e3, bI_s, xV_97, e4, bN_s, bI_s]
      rfl
    · rw [f4, f3, f2, uI_same, up_same]
/-- ( or - -/
theorem a_open (h : MR tx n b s k o (W ++ [f]) os ks) (hl : W.length < 62) (e : (mTT tx n k).1 = 40 ∨ (mTT tx n k).1 = 45) : (o < 12 → ∃ s' x, step1 (D + 8) 1 s 1 s' ∧ MR tx n b s' (k + 1) (o + 1) (W ++ [f] ++ [(if (mTT tx n k).1 = 45 then 2 else 1, 0, (mTT tx n k).2.1, 0, x)]) os ks ∧ offE b s s') ∧ (o = 12 → ∃ s', (∀ m, lE (D + 8) (m + 2) 1 s = some (none, mjW0 s')) ∧ MZ (mTT tx n) b s' (3, k) os.length ∧ offE b s s') := by
  have A := h.at
  have hv : isVal (mTT tx n k).1 = true := by rcases e with e | e <;> rw [e] <;> decide
  have hW : (W ++ [f]).length < 64 := by rw [List.length_append]; show W.length + 1 < 64; omega
  obtain ⟨s2, x, e2, a2, r2, f2⟩ := m_waits (d := D + 7) h hW (if (mTT tx n k).1 = 45 then 2 else 1) 0 (mTT tx n k).2.1 0
  have pre : ∀ m, lE (D + 8) (m + 1) 1 s = bI (b_289_69 (mjF (D + 8)) 97 (mTT tx n k).1 (mjW0 s2)) (fun v hp => L_287_18 (mjF (D + 9)) m 97 v hp) := by
    intro m
    have e31 : b_289_31 (mjF (D + 8)) 97 (mjW0 s) = b_289_69 (mjF (D + 8)) 97 (mTT tx n k).1 (mjW0 s2) := by
      unfold b_289_31 b_289_48
      rw [xV_97, v_sign A (by decide), bI_s, i01]
      by_cases e45 : (mTT tx n k).1 = 45
      · rw [if_pos e45] at e2 ⊢
        rw [xg_97_4, A.2.2.1, xV_97, e2, bN_s, if_pos e45, if_neg (show ¬ (1 : Int32) = 0 by decide), e45]
      · rw [if_neg e45] at e2 ⊢
        have e40 := e.resolve_right e45
        rw [xg_97_4, A.2.2.1, xV_97, e2, bN_s, if_neg e45, if_pos rfl, e40]
    rw [lE_1 h (by omega), e_289]
    unfold f_289 b_289_0
    rw [xV_97, v_begins A, bI_s, i01, hv, if_pos rfl, xV_97, v_sign A (by decide), bI_s, i01, xV_97, v_sign A (by decide), bI_s, i01, e31]
    by_cases e45 : (mTT tx n k).1 = 45
    · rw [if_pos e45]
    · rw [if_neg e45, if_pos (e.resolve_right e45)]
  have hc : (mTT tx n k).1 ∈ sgM := by rcases e with e | e <;> rw [e] <;> decide
  refine ⟨fun ho => ?_, fun ho => ?_⟩
  · obtain ⟨s3, e3, a3, r3, f3⟩ := m_opens (d := D + 4) a2 hc rfl ho
    refine ⟨s3, x, fun m => ?_, a3, r2.tr r3⟩
    rw [pre]
    unfold b_289_69
    rw [xV_97, e3, bN_s, bI_s]
    rfl
  · subst ho
    obtain ⟨s3, e3, z3, r3⟩ := m_opens3 (d := D + 4) a2 hc rfl
    refine ⟨s3, fun m => ?_, z3, r2.tr r3⟩
    rw [pre]
    unfold b_289_69
    rw [xV_97, e3, bN_s, bI_s]
    exact lE_z z3 1
end MJ75
end
section
/-! ===== the reference: orders and waiting things that are changed ===== -/
section MJ76
variable {tx : Nat → Int32} {n b D k o q l m : Nat} {s s' : mjSt3} {W : List WF} {f : WF} {os : List Row} {ks : List Nat}
/-- a row among 143 to 146 is changed at an order's place -/
theorem MR.setR (h : MR tx n b s k o W os ks) {i x : Nat} {v : Int32} {r r' : Row} (hr : os[i]? = some r) (hx : (x = 143 ∧ r' = (v, r.2)) ∨ (x = 144 ∧ r' = (r.1, v, r.2.2)) ∨ (x = 145 ∧ r' = (r.1, r.2.1, v, r.2.2.2)) ∨ (x = 146 ∧ r' = (r.1, r.2.1, r.2.2.1, v, r.2.2.2.2))) : MR tx n b (uI s x (upd (s.1 x) (5000 * b + i) v)) k o W (os.set i r') ks := by
  obtain ⟨⟨a1, a2⟩, ⟨b1, b2, b3, b4⟩, ⟨c1, c2⟩, ⟨d1, d2⟩, e1, e2⟩ := h
  have hx' : 143 ≤ x ∧ x ≤ 146 := by omega
  have q : ∀ h, ¬ h = x → (uI s x (upd (s.1 x) (5000 * b + i) v)).1 h = s.1 h := fun h e => uI_ne _ _ _ _ e
  refine ⟨⟨?_, ?_⟩, ⟨b1, ?_, ?_, ?_⟩, ⟨?_, fun i f hf => ?_⟩, ⟨?_, fun j y hy => ?_⟩, ?_, fun i t ht => ?_⟩
  · unfold MB at a1 ⊢
    rw [q 97 (by omega), q 98 (by omega)]; exact a1
  · unfold MT at a2 ⊢
    rw [q 97 (by omega)]; exact a2
  · rw [q 97 (by omega), b2]
  · rw [q 97 (by omega), b3]
  · rw [q 97 (by omega), b4]
  · rw [q 97 (by omega), c1]
  · unfold Wt
    rw [q 151 (by omega), q 152 (by omega), q 153 (by omega), q 154 (by omega), q 182 (by omega)]
    exact c2 i f hf
  · rw [q 122 (by omega), d1, List.length_set]
  · have hil := (List.getElem?_eq_some_iff.mp hr).1
    by_cases ej : j = i
    · subst ej
      rw [List.getElem?_set_self hil] at hy
      have ey : r' = y := by simpa using hy
      subst ey
      obtain ⟨p1, p2, p3, p4, p5⟩ := d2 j r hr
      rcases hx with ⟨hx, e⟩ | ⟨hx, e⟩ | ⟨hx, e⟩ | ⟨hx, e⟩
      · subst hx e
        exact ⟨by rw [uI_same, up_same], by rw [uI_ne _ _ _ _ (by decide)]; exact p2, by rw [uI_ne _ _ _ _ (by decide)]; exact p3, by rw [uI_ne _ _ _ _ (by decide)]; exact p4, p5⟩
      · subst hx e
        exact ⟨by rw [uI_ne _ _ _ _ (by decide)]; exact p1, by rw [uI_same, up_same], by rw [uI_ne _ _ _ _ (by decide)]; exact p3, by rw [uI_ne _ _ _ _ (by decide)]; exact p4, p5⟩
      · subst hx e
        exact ⟨by rw [uI_ne _ _ _ _ (by decide)]; exact p1, by rw [uI_ne _ _ _ _ (by decide)]; exact p2, by rw [uI_same, up_same], by rw [uI_ne _ _ _ _ (by decide)]; exact p4, p5⟩
      · subst hx e
        exact ⟨by rw [uI_ne _ _ _ _ (by decide)]; exact p1, by rw [uI_ne _ _ _ _ (by decide)]; exact p2, by rw [uI_ne _ _ _ _ (by decide)]; exact p3, by rw [uI_same, up_same], p5⟩
    · rw [List.getElem?_set_ne (fun e => ej e.symm)] at hy
      obtain ⟨p1, p2, p3, p4, p5⟩ := d2 j y hy
      have g : ∀ h, (uI s x (upd (s.1 x) (5000 * b + i) v)).1 h (5000 * b + j) = s.1 h (5000 * b + j) := by
        intro h
        rw [uI_g]
        by_cases e : h = x
        · rw [if_pos e, upd_g, if_neg (by omega), e]
        · rw [if_neg e]
      exact ⟨(g 143).trans p1, (g 144).trans p2, (g 145).trans p3, (g 146).trans p4, p5⟩
  · rw [q 121 (by omega), e1]
  · unfold Kd
    rw [q 137 (by omega), q 138 (by omega), q 141 (by omega)]
    exact e2 i t ht
/-- many or the argument's place of what waits on top -/
theorem MR.setW (h : MR tx n b s k o (W ++ [f]) os ks) {x : Nat} {v : Int32} {f' : WF} (hx : (x = 154 ∧ f' = (f.1, f.2.1, f.2.2.1, v, f.2.2.2.2)) ∨ (x = 182 ∧ f' = (f.1, f.2.1, f.2.2.1, f.2.2.2.1, v))) : MR tx n b (uI s x (upd (s.1 x) W.length v)) k o (W ++ [f']) os ks := by
  have t := h.top
  obtain ⟨⟨a1, a2⟩, ⟨b1, b2, b3, b4⟩, ⟨c1, c2⟩, ⟨d1, d2⟩, e1, e2⟩ := h
  have hx' : x = 154 ∨ x = 182 := by omega
  have q : ∀ h, ¬ h = x → (uI s x (upd (s.1 x) W.length v)).1 h = s.1 h := fun h e => uI_ne _ _ _ _ e
  refine ⟨⟨?_, ?_⟩, ⟨b1, ?_, ?_, ?_⟩, ⟨?_, fun j y hy => ?_⟩, ⟨?_, fun j y hy => ?_⟩, ?_, fun i t ht => ?_⟩
  · unfold MB at a1 ⊢
    rw [q 97 (by omega), q 98 (by omega)]; exact a1
  · unfold MT at a2 ⊢
    rw [q 97 (by omega)]; exact a2
  · rw [q 97 (by omega), b2]
  · rw [q 97 (by omega), b3]
  · rw [q 97 (by omega), b4]
  · rw [q 97 (by omega), c1, List.length_append, List.length_append]; rfl
  · by_cases hl : j < W.length
    · rw [List.getElem?_append_left hl] at hy
      have := c2 j y (by rw [List.getElem?_append_left hl]; exact hy)
      have g : ∀ h, (uI s x (upd (s.1 x) W.length v)).1 h j = s.1 h j := by
        intro h
        rw [uI_g]
        by_cases e : h = x
        · rw [if_pos e, upd_g, if_neg (by omega), e]
        · rw [if_neg e]
      exact ⟨(g 151).trans this.1, (g 152).trans this.2.1, (g 153).trans this.2.2.1, (g 154).trans this.2.2.2.1, (g 182).trans this.2.2.2.2⟩
    · have hy' := (List.getElem?_eq_some_iff.mp hy).1
      rw [List.length_append, List.length_singleton] at hy'
      have e : j = W.length := by omega
      subst e
      rw [List.getElem?_append_right (Nat.le_refl _), Nat.sub_self] at hy
      have ey : f' = y := by simpa using hy
      subst ey
      obtain ⟨⟨p1, p2, p3, p4, p5⟩, _⟩ := t
      rcases hx with ⟨hx, e⟩ | ⟨hx, e⟩
      · subst hx e
        exact ⟨by rw [uI_ne _ _ _ _ (by decide)]; exact p1, by rw [uI_ne _ _ _ _ (by decide)]; exact p2, by rw [uI_ne _ _ _ _ (by decide)]; exact p3, by rw [uI_same, up_same], by rw [uI_ne _ _ _ _ (by decide)]; exact p5⟩
      · subst hx e
        exact ⟨by rw [uI_ne _ _ _ _ (by decide)]; exact p1, by rw [uI_ne _ _ _ _ (by decide)]; exact p2, by rw [uI_ne _ _ _ _ (by decide)]; exact p3, by rw [uI_ne _ _ _ _ (by decide)]; exact p4, by rw [uI_same, up_same]⟩
  · rw [q 122 (by omega), d1]
  · unfold Rw
    rw [q 143 (by omega), q 144 (by omega), q 145 (by omega), q 146 (by omega)]
    exact d2 j y hy
  · rw [q 121 (by omega), e1]
  · unfold Kd
    rw [q 137 (by omega), q 138 (by omega), q 141 (by omega)]
    exact e2 i t ht
theorem setR_off {i x : Nat} {v : Int32} (hx : 143 ≤ x ∧ x ≤ 146) (hi : i < 5000) : offE b s (uI s x (upd (s.1 x) (5000 * b + i) v)) := offG.w (by unfold chE; omega)
theorem setW_off {i x : Nat} {v : Int32} (hx : x = 154 ∨ x = 182) : offE b s (uI s x (upd (s.1 x) i v)) := offG.w (by unfold chE; omega)
/-- beginArgument: the call waits on top -/
theorem m_beginA {y : WF} (h : MR tx n b s k o (W ++ [y]) os ks) (hl : W.length < 64) {j : Nat} (hy : y.2.2.2.1 = nI j) (hj : j ≤ 6) : (isVal (mTT tx n k).1 = true → j < 6 → ∃ s', mjF (D + 3) 294 [.ref 97, .int (nI W.length)] (mjW0 s) = some (some (.int 1), mjW0 s') ∧ MR tx n b s' k o (W ++ [(y.1, y.2.1, y.2.2.1, nI (j + 1), (mTT tx n k).2.1)]) os ks ∧ offE b s s' ∧ s'.1 97 77 = s.1 97 77) ∧ (isVal (mTT tx n k).1 = false → ∃ s', mjF (D + 3) 294 [.ref 97, .int (nI W.length)] (mjW0 s) = some (some (.int 1), mjW0 s') ∧ MZ (mTT tx n) b s' (F2 (mTT tx n) k) os.length ∧ offE b s s') ∧ (isVal (mTT tx n k).1 = true → j = 6 → ∃ s', mjF (D + 3) 294 [.ref 97, .int (nI W.length)] (mjW0 s) = some (some (.int 1), mjW0 s') ∧ MZ (mTT tx n) b s' (3, k) os.length ∧ offE b s s') := by
  have t := h.top
  have A := h.at
  have p4 : s.1 154 W.length = nI j := t.1.2.2.2.1.trans hy
  have t34 : ∀ z : mjSt3, z.1 154 W.length = nI j → ∀ a4 : Int32, z.1 97 4 = a4 → b_294_34 (mjF (D + 2)) 97 (nI W.length) (mjW0 z) = some (some (.int 1), mjW0 (uI (uI z 154 (upd (z.1 154) W.length (nI (j + 1)))) 182 (upd (z.1 182) W.length a4))) := by
    intro z hz a4 h4
    unfold b_294_34
    rw [xg_97_75, xa_154, if_pos (mj_in_nI hl (by decide)), nI_clamp (by omega), hz, nI_1, xs_154, if_pos (mj_in_nI hl (by decide)), nI_clamp (by omega), xg_97_128, xg_97_4, uI_ne _ _ _ _ (show ¬ 97 = 154 by decide), h4, xs_182, if_pos (mj_in_nI hl (by decide)), nI_clamp (by omega), uI_ne _ _ _ _ (show ¬ 182 = 154 by decide)]
  have zz : ∀ (e : Nat × Nat), (e.1 = 1 ∨ e.1 = 2 ∨ e.1 = 3) → ∃ s', b_294_34 (mjF (D + 2)) 97 (nI W.length) (mjW0 (bS s (nI e.1) ((mTT tx n) e.2).2.1)) = some (some (.int 1), mjW0 s') ∧ MZ (mTT tx n) b s' e os.length ∧ offE b s s' := by
    intro e he
    have fb := bS_at (s := s) (nI e.1) ((mTT tx n) e.2).2.1
    have z := h.z he
    have o1 : offE b s (bS s (nI e.1) ((mTT tx n) e.2).2.1) := bS_off _ _
    have o2 : offE b (bS s (nI e.1) ((mTT tx n) e.2).2.1) (uI (bS s (nI e.1) ((mTT tx n) e.2).2.1) 154 (upd ((bS s (nI e.1) ((mTT tx n) e.2).2.1).1 154) W.length (nI (j + 1)))) := setW_off (Or.inl rfl)
    have o3 : offE b (uI (bS s (nI e.1) ((mTT tx n) e.2).2.1) 154 (upd ((bS s (nI e.1) ((mTT tx n) e.2).2.1).1 154) W.length (nI (j + 1)))) (uI (uI (bS s (nI e.1) ((mTT tx n) e.2).2.1) 154 (upd ((bS s (nI e.1) ((mTT tx n) e.2).2.1).1 154) W.length (nI (j + 1)))) 182 (upd ((uI (bS s (nI e.1) ((mTT tx n) e.2).2.1) 154 (upd ((bS s (nI e.1) ((mTT tx n) e.2).2.1).1 154) W.length (nI (j + 1)))).1 182) W.length ((bS s (nI e.1) ((mTT tx n) e.2).2.1).1 97 4))) := setW_off (Or.inr rfl)
    rw [uI_ne _ _ _ _ (show ¬ 182 = 154 by decide)] at o3
    refine ⟨_, t34 (bS s (nI e.1) ((mTT tx n) e.2).2.1) (by rw [fb.2.2.2.1 154 (by decide)]; exact p4) _ rfl, ?_, (o1.tr o2).tr o3⟩
    obtain ⟨z1, z2, z3, z4, z5, z6⟩ := z
    refine ⟨z1, z2, ?_, ?_, ?_, ?_⟩
    · rw [uI_ne _ _ _ _ (by decide), uI_ne _ _ _ _ (by decide), z3]
    · rw [uI_ne _ _ _ _ (by decide), uI_ne _ _ _ _ (by decide), z4]
    · rw [uI_ne _ _ _ _ (by decide), uI_ne _ _ _ _ (by decide), z5]
    · rw [uI_ne _ _ _ _ (by decide), uI_ne _ _ _ _ (by decide), z6]
  rw [e_294]
  unfold f_294 b_294_0
  rw [xV_97, v_begins A, bI_s, i01]
  refine ⟨fun hv j6 => ?_, fun hv => ?_, fun hv j6 => ?_⟩
  · have a1 := h.setW (x := 154) (v := nI (j + 1)) (Or.inl ⟨rfl, rfl⟩)
    have a2 := a1.setW (x := 182) (v := (mTT tx n k).2.1) (Or.inr ⟨rfl, rfl⟩)
    refine ⟨_, ?_, a2, (setW_off (Or.inl rfl)).tr (setW_off (Or.inr rfl)), ?_⟩
    · rw [hv, if_pos rfl, xg_97_75, xa_154, if_pos (mj_in_nI hl (by decide)), nI_clamp (by omega), p4, if_neg (show ¬ nI j = 6 from fun e => by have := (nI_eq (a := j) (b := 6) (by omega) (by omega)).mp e; omega), t34 s p4 _ A.2.2.1, uI_ne _ _ _ _ (show ¬ 182 = 154 by decide)]
    · rw [uI_ne _ _ _ _ (show ¬ 97 = 182 by decide), uI_ne _ _ _ _ (show ¬ 97 = 154 by decide)]
  · obtain ⟨s', e1, z1, r1⟩ := zz (F2 (mTT tx n) k) (F2_in _ _)
    exact ⟨s', by rw [hv, if_neg (show ¬ false = true by decide), xV_97, m_wrong h, bN_s, e1], z1, r1⟩
  · subst j6
    obtain ⟨s', e1, z1, r1⟩ := zz (3, k) (Or.inr (Or.inr rfl))
    exact ⟨s', by rw [hv, if_pos rfl, xg_97_75, xa_154, if_pos (mj_in_nI hl (by decide)), nI_clamp (by omega), p4, if_pos (show nI 6 = 6 from rfl), xg_97_4, A.2.2.1, xV_97, v_fail h.2.1.2.1, bN_s]; exact e1, z1, r1⟩
end MJ76
end
