/-! ===== readText ===== -/
theorem uR_g (s : mjSt3) (h : Nat) (f : Nat → Nat) (h' : Nat) (e : ¬ h' = h) : (uR s h f).2.2 h' = s.2.2 h' := uR_ne s h h' f e
/-- the class's rows behind a TEXT that is read: T its tokens, t what was read -/
def RD (T : TT) (N q : Nat) (s : mjSt3) (t : PT) (ag : Nat → Int32) : Prop := TH T N s ∧ RQ q s ∧ CI T q s t.1 ∧ t.1.length ≤ 16 ∧ (∀ (c : Nat) (E : CD), t.1[c]? = some E → E.2.length ≤ 24) ∧ s.1 70 384 = nI t.2.1.1 ∧ s.1 (q + 22) 384 = nI t.2.1.2 ∧ s.1 63 = rAg t.2.2.2.2.1 ag ∧ s.1 58 7 = 0 ∧ ∃ c, c ≤ N ∧ s.1 58 6 = nI c
section MJ65
variable {T : TT} {N q : Nat} {s : mjSt3}
theorem ci_cg {L : List CD} {s s' : mjSt3} (hC : CI T q s L) (hB : ∀ (c : Nat) (E : CD), L[c]? = some E → E.2.length ≤ 24) (hl : L.length ≤ 16) (h1 : ∀ h j, j < 384 → (q ≤ h ∧ h ≤ q + 27) ∨ (65 ≤ h ∧ h ≤ 70) → s'.1 h j = s.1 h j) (h2 : s'.2.1 (q + 15) = s.2.1 (q + 15)) (h3 : s'.2.1 62 = s.2.1 62) : CI T q s' L := by
  have hb := CI.bound hB
  obtain ⟨a1, a2, ⟨a3, a4⟩, a5⟩ := hC
  refine ⟨?_, ?_, ⟨fun j g1 g2 => ?_, fun j g1 g2 => ?_⟩, fun c D hc => ?_⟩
  · rw [h1 q 0 (by omega) (by omega), a1]
  · rw [h1 (q + 14) 0 (by omega) (by omega), a2]
  · rw [h1 _ j (by omega) (by omega), h1 _ j (by omega) (by omega), h1 _ j (by omega) (by omega), h1 _ j (by omega) (by omega), h1 _ j (by omega) (by omega)]; exact a3 j g1 g2
  · rw [h1 _ j g2 (by omega), h1 _ j g2 (by omega)]; exact a4 j g1 g2
  · have hc' := (List.getElem?_eq_some_iff.mp hc).1
    have hm := nMem_take hc
    obtain ⟨⟨b1, b2, b3, b4, b5, b6, b7⟩, e1, e2, e3, e4⟩ := a5 c D hc
    refine ⟨⟨?_, ?_, ?_, ?_, ?_, ?_, ?_⟩, ?_, ?_, ?_, fun j md hj => ?_⟩
    · rw [h1 _ c (by omega) (by omega), b1]
    · rw [h1 _ c (by omega) (by omega), b2]
    · rw [h1 _ c (by omega) (by omega), b3]
    · rw [h1 _ c (by omega) (by omega), b4]
    · rw [h1 _ c (by omega) (by omega), b5]
    · rw [h1 _ c (by omega) (by omega), b6]
    · rw [h1 _ c (by omega) (by omega)]; exact b7
    · rw [h1 _ c (by omega) (by omega), e1]
    · rw [h1 _ c (by omega) (by omega), e2]
    · rw [h1 _ c (by omega) (by omega), e3]
    · have hj' := (List.getElem?_eq_some_iff.mp hj).1
      obtain ⟨m1, m2, m3, m4, m5, m6, m7, m8⟩ := e4 j md hj
      refine ⟨?_, ?_, ?_, ?_, ?_, ?_, ?_, fun t => ⟨?_, ?_⟩⟩
      · rw [h1 _ _ (by omega) (by omega), m1]
      · rw [h1 _ _ (by omega) (by omega), m2]
      · rw [h1 _ _ (by omega) (by omega), m3]
      · rw [h2, h3, m4]
      · rw [h1 _ _ (by omega) (by omega), m5]
      · rw [h1 _ _ (by omega) (by omega), m6]
      · rw [h1 _ _ (by omega) (by omega), m7]
      · rw [h1 _ _ (by omega) (by omega), (m8 t).1]
      · rw [h1 _ _ (by omega) (by omega), (m8 t).2]
theorem th_eR {x : RS} (h : TH T N s) : TH T N (eR s x) := by
  obtain ⟨a, b, c, d⟩ := h
  exact ⟨eR_5.trans a, b, c, fun k hk => by rw [eR_60, eR_61]; exact d k hk⟩
/-- readText on program q, whose rows are clear -/
theorem x_readText {D kq : Nat} (hD : 197 ≤ D) (hq : isP q) (hT : TH T N s) (h6 : s.1 58 6 = 0) (h7 : s.1 58 7 = 0) (h0 : s.1 q 0 = 0) (h14 : s.1 (q + 14) 0 = 0) (hF : Fr q 0 0 s) : match pText T (N + 1) kq with
    | .inl e => (e.1 = 1 ∨ e.1 = 2 ∨ e.1 = 3) ∧ ∃ s', mjF (D + 1) 126 [.ref 64, .ref q] (mjW0 s) = some (none, mjW0 s') ∧ s'.1 58 7 = nI e.1 ∧ s'.1 58 8 = (T e.2).2.1 ∧ offL q s s'
    | .inr t => ∃ s', mjF (D + 1) 126 [.ref 64, .ref q] (mjW0 s) = some (none, mjW0 s') ∧ s'.1 58 8 = s.1 58 8 ∧ RD T N q s' t (s.1 63) ∧ offL q s s' ∧ (∀ h, h = q + 16 ∨ h = q + 18 ∨ h = q + 20 → s'.1 h 384 = s.1 h 384) := by
  have hq' : q = 2 ∨ q = 30 := hq
  let z : mjSt3 := uR (uR s 64 (updR (s.2.2 64) 1 q)) 64 (updR ((uR s 64 (updR (s.2.2 64) 1 q)).2.2 64) 2 (q + 14))
  have hz : z = uR (uR s 64 (updR (s.2.2 64) 1 q)) 64 (updR ((uR s 64 (updR (s.2.2 64) 1 q)).2.2 64) 2 (q + 14)) := rfl
  have z1 : z.1 = s.1 := rfl
  have z2 : z.2.1 = s.2.1 := rfl
  have hTz : TH T N z := hT
  have hQz : RQ q z := by
    refine ⟨hq, ?_, ?_⟩
    · rw [hz, uR_same, uR_same]; rfl
    · rw [hz, uR_same]; rfl
  have hLz : offL q s z := ⟨fun _ _ _ => rfl, fun _ _ _ => rfl, fun h a _ _ => by rw [hz, uR_g _ _ _ _ a, uR_g _ _ _ _ a]⟩
  have hCz : CI T q z [] := ⟨h0, h14, hF, fun c D hc => by simp at hc⟩
  have e0 : mjF (D + 1) 126 [.ref 64, .ref q] (mjW0 s) = L_126_20 (mjF D) mjN 64 (nI 0) (mjW0 (eR z (0, 0, s.1 58 8, nI 0, s.1 64 10, rAg [] (s.1 63)))) := by
    rw [e_126]
    unfold f_126 b_126_0
    rw [xp_64_1, yg_14 hq, xp_64_2, xp_64_9, ← hz]
    have es : eR z (0, s.1 58 7, s.1 58 8, s.1 64 9, s.1 64 10, s.1 63) = z := eR_self (s := z) (c := 0) h6
    have e2 : uI z 64 (upd (z.1 64) 9 0) = eR z (0, 0, s.1 58 8, nI 0, s.1 64 10, s.1 63) := by
      have w := wR_o (s := z) (x := (0, s.1 58 7, s.1 58 8, s.1 64 9, s.1 64 10, s.1 63)) 0
      rw [es] at w
      rw [w, h7]
      rfl
    rw [e2]
    rfl
  rw [e0]
  have k := x_cls (T := T) (N := N) (q := q) (kq := kq) (p := s.1 58 8) (ag := s.1 63) (D := D) hD 17 mjN (0, [], [], [], []) z (s.1 64 10) hTz hQz hCz (fun c E hc => by simp at hc) rfl (by show 0 ≤ 16; omega) (by unfold mjN; omega) (Nat.zero_le N)
  unfold pText
  cases hP : pClasses T (N + 1) kq 17 (0, [], [], [], []) with
  | inl e =>
    rw [hP] at k
    obtain ⟨he, s1, o1, v1, ag1, k, w⟩ := k
    exact ⟨he, _, k, eR_7, eR_8, eR_L (hLz.tr w)⟩
  | inr y =>
    rw [hP] at k
    obtain ⟨g1, g2, g3, s1, v1, k, g4, g5, g6, g7, g8⟩ := k
    have m := x_81 (p := s.1 58 8) (v := v1) (ag := rAg y.2.2.2.2 (s.1 63)) g4 g5 (D := D) (c := y.1) (kq := kq + y.2.2.1.length) (i0 := y.2.2.2.1.length) (by omega) g1
    have k' : L_126_20 (mjF D) mjN 64 (nI 0) (mjW0 (eR z (0, 0, s.1 58 8, nI 0, s.1 64 10, rAg [] (s.1 63)))) = b_126_81 (mjF D) 64 (mjW0 (eR s1 (y.1, 0, s.1 58 8, nI 0, v1, rAg y.2.2.2.2 (s.1 63)))) := k
    have bad : ∀ e : Nat × Nat, tbOK q s1 T N (b_126_81 (mjF D) 64 (mjW0 (eR s1 (y.1, 0, s.1 58 8, nI 0, v1, rAg y.2.2.2.2 (s.1 63))))) e → (e.1 = 1 ∨ e.1 = 2 ∨ e.1 = 3) ∧ ∃ s', L_126_20 (mjF D) mjN 64 (nI 0) (mjW0 (eR z (0, 0, s.1 58 8, nI 0, s.1 64 10, rAg [] (s.1 63)))) = some (none, mjW0 s') ∧ s'.1 58 7 = nI e.1 ∧ s'.1 58 8 = (T e.2).2.1 ∧ offL q s s' := by
      intro e hb
      obtain ⟨he, s2, o2, v2, ag2, k2, w⟩ := hb
      exact ⟨he, _, k'.trans k2, eR_7, eR_8, eR_L ((hLz.tr g7).tr w)⟩
    by_cases h9 : (T y.1).1 = 9
    · simp only [if_pos h9] at m ⊢
      cases hS : prS T (N + 1) 30 0 0 (y.1 + 1) 0 (kq + y.2.2.1.length) y.2.2.2.1.length with
      | inl e =>
        rw [hS] at m
        exact bad e m
      | inr b =>
        rw [hS] at m
        by_cases hz0 : (T b.1).1 = 0
        · simp only [if_pos hz0] at m ⊢
          obtain ⟨hb, m⟩ := m
          refine ⟨_, k'.trans m, eR_8, ⟨th_eR ((g4.w (by decide) (by decide) (by decide)).w (by omega) (by omega) (by omega)), g5, ?_, g2, g3, ?_, ?_, ?_, eR_7, b.1, hb, eR_6⟩, eR_L (((hLz.tr g7).tr (w70_L hq _)).tr (wq_L (by omega) _)), fun h hh => ?_⟩
          · refine ci_cg g6 g3 g2 (fun h j hj hh => ?_) rfl rfl
            rw [eR_q (by omega) (by omega) (by omega)]
            by_cases e22 : h = q + 22
            · rw [e22, uI_same, uI_ne _ _ _ _ (by omega)]
              exact if_neg (by omega)
            · rw [uI_ne _ _ _ _ e22]
              by_cases e70 : h = 70
              · rw [e70, uI_same]
                exact if_neg (by omega)
              · rw [uI_ne _ _ _ _ e70]
          · rw [eR_q (by omega) (by omega) (by omega), uI_ne _ _ _ _ (by omega), uI_same]
            exact if_pos rfl
          · rw [eR_q (by omega) (by omega) (by omega), uI_same]
            exact if_pos rfl
          · rw [eR_63, ← rAg_app]
          · rw [eR_q (by omega) (by omega) (by omega), uI_ne _ _ _ _ (by omega), uI_ne _ _ _ _ (by omega)]
            exact g8 h hh
        · simp only [if_neg hz0] at m ⊢
          exact bad _ m
    · simp only [if_neg h9] at m ⊢
      exact bad _ m
end MJ65
