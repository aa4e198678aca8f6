/-! ===== the reference: readAll ===== -/
theorem nI_srj (v : Int32) : ∃ m, v = nI m := by
  refine ⟨v.toBitVec.toNat, ?_⟩
  apply Int32.toBitVec_inj.mp
  simp [nI]
def RCs (T : TT) (b : Nat) (s : mjSt3) (ks : List Nat) (L : List CD) : Prop := s.1 100 b = nI L.length ∧ s.1 120 b = nI (nMem L) ∧ ∀ c E, L[c]? = some E → RC T b s ks (16 * b + c) (nMem (L.take c)) E
def chRd (b h j : Nat) : Prop := chS b h j ∨ (h = 97 ∧ (j = 65 ∨ j = 66)) ∨ ((h = 100 ∨ h = 120 ∨ h = 123) ∧ j = b) ∨ (102 ≤ h ∧ h ≤ 108 ∧ 16 * b ≤ j ∧ j < 16 * b + 16) ∨ (h = 112 ∧ 80 * b ≤ j ∧ j < 80 * b + 80) ∨ ((h = 115 ∨ h = 116) ∧ 128 * b ≤ j ∧ j < 128 * b + 128) ∨ (124 ≤ h ∧ h ≤ 131 ∧ 400 * b ≤ j ∧ j < 400 * b + 400) ∨ ((h = 133 ∨ h = 134) ∧ 2400 * b ≤ j ∧ j < 2400 * b + 2400)
def chRdL (b h j : Nat) : Prop := chEL b h j ∨ (h = 101 ∧ 16 * b ≤ j ∧ j < 16 * b + 16) ∨ (h = 111 ∧ 80 * b ≤ j ∧ j < 80 * b + 80) ∨ ((h = 113 ∨ h = 114) ∧ 128 * b ≤ j ∧ j < 128 * b + 128) ∨ (h = 132 ∧ 400 * b ≤ j ∧ j < 400 * b + 400) ∨ (h = 135 ∧ 2400 * b ≤ j ∧ j < 2400 * b + 2400)
def offRd (b : Nat) : mjSt3 → mjSt3 → Prop := offG (chRd b) (chRdL b)
noncomputable def lC (D m : Nat) (s : mjSt3) : mjU := L_261_54 (mjF (D + 15)) m 97 (mjW0 s)
theorem L261_S (R : mjR) (m a : Nat) (hp : mjH) : L_261_54 R (m + 1) a hp = b_261_54 R (L_261_54 R m) a hp := rfl
section MJA0
variable {tx : Nat → Int32} {n b D k o N C ci fm : Nat} {s s' : mjSt3} {W : List WF} {os : List Row} {ks : List Nat}
theorem offRd_S (h : offS b s s') : offRd b s s' := offG.mono h (fun _ _ q => Or.inl q) (fun _ _ q => Or.inl q)
theorem offRd_Cl (h : offCl b (16 * b + ci) fm s s') (h1 : ci < 16 ∨ ci = 16) (hc : ci < 16) : offRd b s s' := offG.mono h (fun x y q => by
  rcases q with q | q | q | q | q | q | q | q
  · exact Or.inl q
  · unfold chRd; omega
  · unfold chRd; omega
  · unfold chRd; omega
  · unfold chRd; omega
  · unfold chRd; omega
  · unfold chRd; omega
  · unfold chRd; omega) (fun x y q => by
  rcases q with q | q | q | q | q | q
  · exact Or.inl q
  · unfold chRdL; omega
  · unfold chRdL; omega
  · unfold chRdL; omega
  · unfold chRdL; omega
  · unfold chRdL; omega)
/-- another CLASS's rows stay -/
theorem RC.off {T : TT} {C' fm' : Nat} {E : CD} {ks' : List Nat} (hb : b ≤ 1) (h : RC T b s ks C' fm' E) (r : offCl b C fm s s') (ne : ¬ C' = C) (hm : fm' + E.2.length ≤ fm) : RC T b s' (ks ++ ks') C' fm' E := by
  obtain ⟨⟨p1, p2, p3, p4, p5, p6, p7, p8, p9⟩, q1, q2⟩ := h
  have q : ∀ x, 102 ≤ x → x ≤ 108 → s'.1 x C' = s.1 x C' := fun x e e' => r.1 x C' (by unfold chCl chS chE; omega)
  refine ⟨⟨?_, ?_, ⟨?_, fun j hj => ?_⟩, fun hz => ?_, fun hz => ?_, ⟨?_, fun j hj => ?_⟩, ?_, p8, p9⟩, ?_, fun j md hj => ?_⟩
  · rw [r.2.1 101 _ (by unfold chClL chEL; omega), p1]
  · rw [q 102 (by omega) (by omega), p2]
  · rw [q 104 (by omega) (by omega)]; exact p3.1
  · rw [r.2.1 111 _ (by unfold chClL chEL; omega), r.1 112 _ (by unfold chCl chS chE; omega)]; exact p3.2 j hj
  · rw [q 103 (by omega) (by omega), q 105 (by omega) (by omega)]; exact p4 hz
  · rw [q 103 (by omega) (by omega), q 105 (by omega) (by omega)]
    obtain ⟨c1, i, c2, c3⟩ := p5 hz
    have hi := (List.getElem?_eq_some_iff.mp c2).1
    exact ⟨c1, i, by rw [List.getElem?_append_left hi]; exact c2, c3⟩
  · rw [q 106 (by omega) (by omega)]; exact p6.1
  · rw [r.2.1 113 _ (by unfold chClL chEL; omega), r.1 115 _ (by unfold chCl chS chE; omega), r.2.1 114 _ (by unfold chClL chEL; omega), r.1 116 _ (by unfold chCl chS chE; omega)]; exact p6.2 j hj
  · rw [q 107 (by omega) (by omega), p7]
  · rw [q 108 (by omega) (by omega), q1]
  · have hj' := (List.getElem?_eq_some_iff.mp hj).1
    obtain ⟨⟨p1, p2, p3, p4⟩, p5, ⟨p6, p7⟩, p8, p9, p10⟩ := q2 j md hj
    have w : ∀ x, 124 ≤ x → x ≤ 131 → s'.1 x (400 * b + (fm' + j)) = s.1 x (400 * b + (fm' + j)) := fun x e e' => r.1 x _ (by unfold chCl chS chE; omega)
    refine ⟨⟨by rw [w 124 (by omega) (by omega), p1], by rw [w 126 (by omega) (by omega), p2], by rw [w 127 (by omega) (by omega), p3], by rw [r.2.1 132 _ (by unfold chClL chEL; omega), p4]⟩, by rw [w 125 (by omega) (by omega), p5], ⟨by rw [w 128 (by omega) (by omega), p6], fun i p hp => ?_⟩, by rw [w 129 (by omega) (by omega), p8], by rw [w 131 (by omega) (by omega), p9], p10⟩
    have hi := (List.getElem?_eq_some_iff.mp hp).1
    rw [r.1 133 _ (by unfold chCl chS chE; omega), r.1 134 _ (by unfold chCl chS chE; omega), r.2.1 135 _ (by unfold chClL chEL; omega)]; exact p7 i p hp
theorem nMem_snoc (L : List CD) (E : CD) : nMem (L ++ [E]) = nMem L + E.2.length := by
  unfold nMem
  simp
theorem nMem_le : ∀ (L : List CD), (∀ (c : Nat) (E : CD), L[c]? = some E → E.2.length ≤ 24) → nMem L ≤ 24 * L.length
  | [], _ => by show 0 ≤ 0; omega
  | E :: L, h => by
    have h1 := nMem_le L (fun c F hF => h (c + 1) F hF)
    have h2 := h 0 E rfl
    have e : nMem (E :: L) = E.2.length + nMem L := by unfold nMem; simp
    rw [e, List.length_cons]; omega
theorem all_bad {T : TT} {e : Nat × Nat} {x q : Nat} (z : MZ T b s e x) : lC D (q + 1) s = some (none, mjW0 s) := by
  unfold lC
  rw [L261_S]
  unfold b_261_54
  rw [xg_97_61, if_neg z.n0]
  unfold b_261_76
  rw [xg_97_61, if_neg z.pos]
theorem m_cl16 (h : MR tx n b s k o W os ks) (h100 : s.1 100 b = nI 16) : mjF (D + 15) 267 [.ref 97] (mjW0 s) = some (none, mjW0 (bS s (nI 3) (mTT tx n k).2.1)) := by
  have hb := h.2.1.1
  rw [e_267]
  unfold f_267 b_267_0
  rw [xg_97_63, h.2.1.2.2.1, xg_97_11, xg_97_63, h.2.1.2.2.1, xa_100, if_pos (mj_in_nI (by omega) (by decide)), nI_clamp (by omega), h100, xg_97_11, xg_97_63, h.2.1.2.2.1, xa_100, if_pos (mj_in_nI (by omega) (by decide)), nI_clamp (by omega), h100, if_pos (show nI 16 = 16 from rfl), xg_97_4, h.at.2.2.1, xV_97, v_fail h.2.1.2.1, bN_s]
  rfl
/-- CLASSES -/
theorem cls_ok (h0 : (mTT tx n N).1 = 0) (hN : N ≤ 3000) : ∀ (f : Nat) (z : PC) (s : mjSt3) (W : List WF), f + z.2.1.length = 17 → z.2.1.length ≤ 16 → z.1 ≤ N → 6 * z.2.2.2.1.length ≤ 7 * z.1 → 4 * z.2.2.1.length ≤ z.1 → (∀ (c : Nat) (E : CD), z.2.1[c]? = some E → E.2.length ≤ 24) → MR tx n b s z.1 0 W z.2.2.2.1 z.2.2.1 → RCs (mTT tx n) b s z.2.2.1 z.2.1 → match pClasses (mTT tx n) (N + 1) (800 * b) f z with
    | .inl e => ∃ s' j x, (∀ q, lC D (q + j) s = some (none, mjW0 s')) ∧ j ≤ f + 2 ∧ MZ (mTT tx n) b s' e x ∧ offRd b s s'
    | .inr y => ¬ (mTT tx n y.1).1 = 5 ∧ y.1 ≤ N ∧ y.2.1.length ≤ 16 ∧ 6 * y.2.2.2.1.length ≤ 7 * y.1 ∧ 4 * y.2.2.1.length ≤ y.1 ∧ (∀ (c : Nat) (E : CD), y.2.1[c]? = some E → E.2.length ≤ 24) ∧ ∃ s' j W', (∀ q, lC D (q + j) s = lC D q s') ∧ j ≤ f + 2 ∧ MR tx n b s' y.1 0 W' y.2.2.2.1 y.2.2.1 ∧ RCs (mTT tx n) b s' y.2.2.1 y.2.1 ∧ offRd b s s'
  | 0, z, s, W, hf, hl, _, _, _, _, _, _ => by omega
  | f + 1, z, s, W, hf, hl, hz, hos, hks, h24, a, rc => by
    have hb := a.2.1.1
    unfold pClasses
    have w5 : mjF (D + 15) 266 [.ref 97, .int 1] (mjW0 s) = _ := v_word (d := D + 14) a.at (w := 0) (by decide)
    rw [show nI (0 + 5) = 5 from rfl] at w5
    by_cases e5 : (mTT tx n z.1).1 = 5
    · rw [if_pos e5]
      have hfm := nMem_le z.2.1 h24
      have G := m_class (D := D) (ci := z.2.1.length) (fm := nMem z.2.1) h0 hN hl (by omega) hz hos hks a e5 rc.1 rc.2.1
      have pre : ∀ q, lC D (q + 1) s = bN (mjF (D + 15) 267 [.ref 97] (mjW0 s)) (fun hp4 => L_261_54 (mjF (D + 15)) q 97 hp4) := by
        intro q
        unfold lC
        rw [L261_S]
        unfold b_261_54
        rw [xg_97_61, a.2.1.2.1, if_pos rfl, xV_97, w5, bI_s, i01, if_pos e5, xV_97]
      by_cases e16 : z.2.1.length = 16
      · have ep : pClass (mTT tx n) (N + 1) z.2.1.length z.1 (800 * b + z.2.2.1.length) z.2.2.2.1.length = .inl (3, z.1) := by
          unfold pClass pHead
          rw [if_pos e16]
        rw [ep]
        have z1 := a.z (e := (3, z.1)) (Or.inr (Or.inr rfl))
        refine ⟨_, 2, _, fun q => ?_, by omega, z1, offRd_S (offS_of (bS_off _ _))⟩
        rw [show q + 2 = (q + 1) + 1 by omega, pre, m_cl16 a (by rw [rc.1, e16]), bN_s]
        exact all_bad (D := D) z1
      cases hc : pClass (mTT tx n) (N + 1) z.2.1.length z.1 (800 * b + z.2.2.1.length) z.2.2.2.1.length with
      | inl e =>
        rw [hc] at G
        obtain ⟨s1, x, e1, z1, hx, r1⟩ := G
        refine ⟨s1, 2, x, fun q => ?_, by omega, z1, ?_⟩
        · rw [show q + 2 = (q + 1) + 1 by omega, pre, e1, bN_s]
          exact all_bad (D := D) z1
        · exact offRd_Cl r1 (by omega) (by omega)
      | inr r =>
        rw [hc] at G
        obtain ⟨g1, g2, g3, g4, g5, g6, s1, W1, e1, a1, rc1, x1, x2, r1⟩ := G
        have pl : (z.2.1 ++ [r.2.1]).length = z.2.1.length + 1 := by rw [List.length_append, List.length_singleton]
        have rcs : RCs (mTT tx n) b s1 (z.2.2.1 ++ r.2.2.1) (z.2.1 ++ [r.2.1]) := by
          refine ⟨by rw [x1, pl], by rw [x2, nMem_snoc], fun c E hE => ?_⟩
          by_cases e : c = z.2.1.length
          · subst e
            rw [List.getElem?_append_right (Nat.le_refl _), Nat.sub_self] at hE
            have em : r.2.1 = E := by simpa using hE
            subst em
            rw [List.take_append_of_le_length (Nat.le_refl _), List.take_length]
            exact rc1
          · have hc' : c < z.2.1.length := by
              have := (List.getElem?_eq_some_iff.mp hE).1
              omega
            rw [List.getElem?_append_left hc'] at hE
            rw [List.take_append_of_le_length (by omega)]
            exact RC.off hb (rc.2.2 c E hE) r1 (by omega) (nMem_take hE)
        have h24' : ∀ (c : Nat) (E : CD), (z.2.1 ++ [r.2.1])[c]? = some E → E.2.length ≤ 24 := by
          intro c E hE
          by_cases e : c = z.2.1.length
          · subst e
            rw [List.getElem?_append_right (Nat.le_refl _), Nat.sub_self] at hE
            have em : r.2.1 = E := by simpa using hE
            subst em
            exact g6
          · have hc' : c < z.2.1.length := by
              have := (List.getElem?_eq_some_iff.mp hE).1
              omega
            rw [List.getElem?_append_left hc'] at hE
            exact h24 c E hE
        have I := cls_ok h0 hN f (r.1, z.2.1 ++ [r.2.1], z.2.2.1 ++ r.2.2.1, z.2.2.2.1 ++ r.2.2.2.1, z.2.2.2.2 ++ r.2.2.2.2) s1 W1 (by show f + (z.2.1 ++ [r.2.1]).length = 17; omega) (by show (z.2.1 ++ [r.2.1]).length ≤ 16; omega) g2 (by show 6 * (z.2.2.2.1 ++ r.2.2.2.1).length ≤ 7 * r.1; rw [List.length_append]; omega) (by show 4 * (z.2.2.1 ++ r.2.2.1).length ≤ r.1; rw [List.length_append]; omega) h24' a1 rcs
        have r1c : offRd b s s1 := offRd_Cl r1 (by omega) (by omega)
        have step : ∀ q, lC D (q + 1) s = lC D q s1 := fun q => by rw [pre, e1, bN_s]; rfl
        show match pClasses (mTT tx n) (N + 1) (800 * b) f (r.1, z.2.1 ++ [r.2.1], z.2.2.1 ++ r.2.2.1, z.2.2.2.1 ++ r.2.2.2.1, z.2.2.2.2 ++ r.2.2.2.2) with
          | .inl e => _
          | .inr y => _
        cases hp : pClasses (mTT tx n) (N + 1) (800 * b) f (r.1, z.2.1 ++ [r.2.1], z.2.2.1 ++ r.2.2.1, z.2.2.2.1 ++ r.2.2.2.1, z.2.2.2.2 ++ r.2.2.2.2) with
        | inl e =>
          rw [hp] at I
          obtain ⟨s2, j, x, i1, i2, i3, i5⟩ := I
          exact ⟨s2, j + 1, x, fun q => by rw [← Nat.add_assoc, step]; exact i1 q, by omega, i3, r1c.tr i5⟩
        | inr y =>
          rw [hp] at I
          obtain ⟨i1, i2, i3, i4, i5, i6, s2, j, W2, j1, j2, j3, j4, j5⟩ := I
          exact ⟨i1, i2, i3, i4, i5, i6, s2, j + 1, W2, fun q => by rw [← Nat.add_assoc, step]; exact j1 q, by omega, j3, j4, r1c.tr j5⟩
    · rw [if_neg e5]
      exact ⟨e5, hz, hl, hos, hks, h24, s, 0, W, fun q => rfl, by omega, a, rc, offG.rf⟩
/-- readAll's last part -/
theorem m_main (h0 : (mTT tx n N).1 = 0) (hN : N ≤ 3000) (hk : k ≤ N) (hos : 6 * os.length ≤ 7 * k) (hks : 4 * ks.length ≤ k) (h : MR tx n b s k 0 W os ks) (n5 : ¬ (mTT tx n k).1 = 5) (q : Nat) : ((mTT tx n k).1 = 9 → match prS (mTT tx n) (N + 1) 30 0 0 (k + 1) 0 (800 * b + ks.length) os.length with
      | .inl e => ∃ s' x, lC D (q + 1) s = some (none, mjW0 s') ∧ MZ (mTT tx n) b s' e x ∧ offRd b s s'
      | .inr z => ((mTT tx n z.1).1 = 0 → bB N (k + 1) z ∧ ∃ s' W', lC D (q + 1) s = some (none, mjW0 s') ∧ MR tx n b s' z.1 0 W' (os ++ (z.2.2.2.1 ++ [oOver])) (ks ++ z.2.2.1) ∧ s'.1 123 b = nI os.length ∧ s'.1 97 67 = nI z.2.1 ∧ (∀ x j, (100 ≤ x ∧ x ≤ 120) ∨ (124 ≤ x ∧ x ≤ 135) → s'.1 x j = s.1 x j) ∧ (∀ x j, (100 ≤ x ∧ x ≤ 120) ∨ (123 ≤ x ∧ x ≤ 135) → s'.2.1 x j = s.2.1 x j) ∧ offRd b s s') ∧ (¬ (mTT tx n z.1).1 = 0 → ∃ s' x, lC D (q + 1) s = some (none, mjW0 s') ∧ MZ (mTT tx n) b s' (F2 (mTT tx n) z.1) x ∧ offRd b s s')) ∧ (¬ (mTT tx n k).1 = 9 → ∃ s' x, lC D (q + 1) s = some (none, mjW0 s') ∧ MZ (mTT tx n) b s' (F2 (mTT tx n) k) x ∧ offRd b s s') := by
  have hb := h.2.1.1
  have w5 : mjF (D + 15) 266 [.ref 97, .int 1] (mjW0 s) = _ := v_word (d := D + 14) h.at (w := 0) (by decide)
  rw [show nI (0 + 5) = 5 from rfl] at w5
  have w9 : mjF (D + 15) 266 [.ref 97, .int 5] (mjW0 s) = _ := v_word (d := D + 14) h.at (w := 4) (by decide)
  rw [show nI (4 + 5) = 9 from rfl] at w9
  have pre : lC D (q + 1) s = if (mTT tx n k).1 = 9 then bN (mjF (D + 15) 262 [.ref 97] (mjW0 s)) (fun hp4 => pI hp4 97 12 66 (-1 : Int32) (fun hp5 => pI hp5 97 12 67 (0 : Int32) (fun hp6 => gR hp6 97 12 34 (fun v7 => gI hp6 97 12 63 (fun v8 => gR hp6 97 12 33 (fun v9 => gI hp6 97 12 63 (fun v10 => aI hp6 v9 v10 (fun v11 => sI hp6 v7 v8 v11 (fun hp12 => rV hp12 97 12 (bN (mjF (D + 15) 279 [.ref 97] hp12) (fun hp13 => gI hp13 97 12 61 (fun v14 => (if v14 = 0 then gI hp13 97 12 3 (fun v15 => (if v15 = 0 then some (none, hp13) else rV hp13 97 12 (bN (mjF (D + 15) 269 [.ref 97] hp13) (fun hp16 => some (none, hp16))))) else some (none, hp13)))))))))))))) else bN (mjF (D + 15) 269 [.ref 97] (mjW0 s)) (fun hp17 => some (none, hp17)) := by
    unfold lC
    rw [L261_S]
    unfold b_261_54
    rw [xg_97_61, h.2.1.2.1, if_pos rfl, xV_97, w5, bI_s, i01, if_neg n5]
    unfold b_261_76
    rw [xg_97_61, h.2.1.2.1, if_pos (show (0 : Int32) ≤ 0 by decide), xV_97, w9, bI_s, i01, xV_97, xV_97]
  refine ⟨fun e9 => ?_, fun e9 => ?_⟩
  · have hl := lt_N hN h0 hk e9 (by decide)
    obtain ⟨s1, e1, a1, r1, f1⟩ := m_next (d := D + 12) h (by rw [e9]; decide)
    obtain ⟨t2, h2⟩ : ∃ t, t = uI s1 97 (upd (s1.1 97) 66 (-1)) := ⟨_, rfl⟩
    have k2 : offG chRow chRowL s1 t2 := by rw [h2]; exact offG.w (by unfold chRow; omega)
    have o2 : offRd b s1 t2 := by rw [h2]; exact offG.w (by unfold chRd; omega)
    obtain ⟨t3, h3⟩ : ∃ t, t = uI t2 97 (upd (t2.1 97) 67 0) := ⟨_, rfl⟩
    have k3 : offG chRow chRowL t2 t3 := by rw [h3]; exact offG.w (by unfold chRow; omega)
    have o3 : offRd b t2 t3 := by rw [h3]; exact offG.w (by unfold chRd chS; omega)
    obtain ⟨t4, h4⟩ : ∃ t, t = uI t3 123 (upd (t3.1 123) b (nI os.length)) := ⟨_, rfl⟩
    have k4 : offG chRow chRowL t3 t4 := by rw [h4]; exact offG.w (by unfold chRow; omega)
    have o4 : offRd b t3 t4 := by rw [h4]; exact offG.w (by unfold chRd; omega)
    have a3 := (a1.keep k2).keep k3
    have a4 := a3.keep k4
    have t67 : t4.1 97 67 = nI 0 := by rw [h4, uI_ne _ _ _ _ (by decide), h3, uI_same]; exact if_pos rfl
    have B := m_body (D := D + 2) h0 hN (show 0 ≤ 12 by omega) hl (show 6 * os.length ≤ 7 * (k + 1) by omega) (show 4 * ks.length ≤ k + 1 by omega) (show 0 ≤ 16 by omega) a4 t67
    have r04 : offRd b s t4 := (offRd_S (offS_of r1)).tr (o2.tr (o3.tr o4))
    have pre2 : lC D (q + 1) s = bN (mjF (D + 15) 279 [.ref 97] (mjW0 t4)) (fun hp13 => gI hp13 97 12 61 (fun v14 => (if v14 = 0 then gI hp13 97 12 3 (fun v15 => (if v15 = 0 then some (none, hp13) else rV hp13 97 12 (bN (mjF (D + 15) 269 [.ref 97] hp13) (fun hp16 => some (none, hp16))))) else some (none, hp13)))) := by
      rw [pre, if_pos e9, e1, bN_s, xp_97_66, ← h2, xp_97_67, ← h3, xg_97_34, xg_97_63, a3.2.1.2.2.1, xg_97_33, xg_97_63, a3.2.1.2.2.1, xa_122, if_pos (mj_in_nI (by omega) (by decide)), nI_clamp (by omega), a3.2.2.2.1.1, xs_123, if_pos (mj_in_nI (by omega) (by decide)), nI_clamp (by omega), ← h4, xV_97]
    cases hp : prS (mTT tx n) (N + 1) 30 0 0 (k + 1) 0 (800 * b + ks.length) os.length with
    | inl e =>
      rw [hp] at B
      obtain ⟨s5, x, e5, z5, hx, r5⟩ := B
      exact ⟨s5, x, by rw [pre2, e5, bN_s, xg_97_61, if_neg z5.n0], z5, r04.tr (offRd_S r5)⟩
    | inr z =>
      rw [hp] at B
      obtain ⟨bb, s5, W5, e5, a5, f5, r5⟩ := B
      have S0 := (v_srt a5.at).2.2.2.2
      refine ⟨fun hz => ⟨bb, s5, W5, ?_, a5, ?_, f5, fun x j e => ?_, fun x j e => ?_, r04.tr (offRd_S r5)⟩, fun hz => ⟨_, _, ?_, m_wz a5, r04.tr ((offRd_S r5).tr (offRd_S (offS_of (bS_off _ _))))⟩⟩
      · rw [pre2, e5, bN_s, xg_97_61, a5.2.1.2.1, if_pos rfl, xg_97_3, if_pos (S0.mpr hz)]
      · rw [r5.1 123 b (by unfold chS chE; omega), h4, uI_same]; exact if_pos rfl
      · rw [r5.1 x j (by unfold chS chE; omega), h4, uI_ne _ _ _ _ (by omega), h3, uI_ne _ _ _ _ (by omega), h2, uI_ne _ _ _ _ (by omega), r1.1 x j (by unfold chE; omega)]
      · rw [r5.2.1 x j (by unfold chEL; omega), h4, h3, h2]
        exact r1.2.1 x j (by unfold chEL; omega)
      · rw [pre2, e5, bN_s, xg_97_61, a5.2.1.2.1, if_pos rfl, xg_97_3, if_neg (fun y => hz (S0.mp y)), xV_97, m_wrong a5, bN_s]
  · exact ⟨_, _, by rw [pre, if_neg e9, m_wrong h, bN_s], m_wz h, offRd_S (offS_of (bS_off _ _))⟩
theorem RC.q {T : TT} {C fm : Nat} {E : CD} {ks' : List Nat} (h : RC T b s ks C fm E) (q : ∀ x j, (100 ≤ x ∧ x ≤ 120) ∨ (124 ≤ x ∧ x ≤ 135) → s'.1 x j = s.1 x j) (l : ∀ x j, (100 ≤ x ∧ x ≤ 120) ∨ (123 ≤ x ∧ x ≤ 135) → s'.2.1 x j = s.2.1 x j) : RC T b s' (ks ++ ks') C fm E := by
  obtain ⟨⟨p1, p2, p3, p4, p5, p6, p7, p8, p9⟩, q1, q2⟩ := h
  refine ⟨⟨?_, ?_, ⟨?_, fun j hj => ?_⟩, fun hz => ?_, fun hz => ?_, ⟨?_, fun j hj => ?_⟩, ?_, p8, p9⟩, ?_, fun j md hj => ?_⟩
  · rw [l 101 _ (by omega), p1]
  · rw [q 102 _ (by omega), p2]
  · rw [q 104 _ (by omega)]; exact p3.1
  · rw [l 111 _ (by omega), q 112 _ (by omega)]; exact p3.2 j hj
  · rw [q 103 _ (by omega), q 105 _ (by omega)]; exact p4 hz
  · rw [q 103 _ (by omega), q 105 _ (by omega)]
    obtain ⟨c1, i, c2, c3⟩ := p5 hz
    have hi := (List.getElem?_eq_some_iff.mp c2).1
    exact ⟨c1, i, by rw [List.getElem?_append_left hi]; exact c2, c3⟩
  · rw [q 106 _ (by omega)]; exact p6.1
  · rw [l 113 _ (by omega), q 115 _ (by omega), l 114 _ (by omega), q 116 _ (by omega)]; exact p6.2 j hj
  · rw [q 107 _ (by omega), p7]
  · rw [q 108 _ (by omega), q1]
  · obtain ⟨⟨p1, p2, p3, p4⟩, p5, ⟨p6, p7⟩, p8, p9, p10⟩ := q2 j md hj
    refine ⟨⟨by rw [q 124 _ (by omega), p1], by rw [q 126 _ (by omega), p2], by rw [q 127 _ (by omega), p3], by rw [l 132 _ (by omega), p4]⟩, by rw [q 125 _ (by omega), p5], ⟨by rw [q 128 _ (by omega), p6], fun i p hp => ?_⟩, by rw [q 129 _ (by omega), p8], by rw [q 131 _ (by omega), p9], p10⟩
    rw [q 133 _ (by omega), q 134 _ (by omega), l 135 _ (by omega)]; exact p7 i p hp
/-- readAll -/
theorem m_all (h0 : (mTT tx n N).1 = 0) (hN : N ≤ 3000) (hm : MB tx n s) (hb : b ≤ 1) (h61 : s.1 97 61 = 0) (h63 : s.1 97 63 = nI b) : match pText (mTT tx n) (N + 1) (800 * b) with
    | .inl e => ∃ s' x, mjF (D + 16) 261 [.ref 97] (mjW0 s) = some (none, mjW0 s') ∧ MZ (mTT tx n) b s' e x ∧ offRd b s s'
    | .inr t => ∃ s' W' c, mjF (D + 16) 261 [.ref 97] (mjW0 s) = some (none, mjW0 s') ∧ MR tx n b s' c 0 W' t.2.2.2.1 t.2.2.1 ∧ RCs (mTT tx n) b s' t.2.2.1 t.1 ∧ s'.1 123 b = nI t.2.2.2.2.2 ∧ t.1.length ≤ 16 ∧ (∀ (c : Nat) (E : CD), t.1[c]? = some E → E.2.length ≤ 24) ∧ 6 * t.2.2.2.1.length ≤ 7 * N + 6 ∧ 4 * t.2.2.1.length ≤ N ∧ t.2.1.2 ≤ 16 ∧ offRd b s s' := by
  have hmj := mjN_v
  obtain ⟨u1, g1⟩ : ∃ t, t = uI s 100 (upd (s.1 100) b 0) := ⟨_, rfl⟩
  obtain ⟨u2, g2⟩ : ∃ t, t = uI u1 120 (upd (u1.1 120) b 0) := ⟨_, rfl⟩
  obtain ⟨u3, g3⟩ : ∃ t, t = uI u2 121 (upd (u2.1 121) b 0) := ⟨_, rfl⟩
  obtain ⟨u4, g4⟩ : ∃ t, t = uI u3 122 (upd (u3.1 122) b 0) := ⟨_, rfl⟩
  obtain ⟨u5, g5⟩ : ∃ t, t = uI u4 97 (upd (u4.1 97) 64 0) := ⟨_, rfl⟩
  obtain ⟨u6, g6⟩ : ∃ t, t = uI u5 97 (upd (u5.1 97) 5 0) := ⟨_, rfl⟩
  have v1 : ∀ x, ¬ x = 100 → u1.1 x = s.1 x := fun x e => by rw [g1]; exact uI_ne _ _ _ _ e
  have v2 : ∀ x, ¬ x = 120 → u2.1 x = u1.1 x := fun x e => by rw [g2]; exact uI_ne _ _ _ _ e
  have v3 : ∀ x, ¬ x = 121 → u3.1 x = u2.1 x := fun x e => by rw [g3]; exact uI_ne _ _ _ _ e
  have v4 : ∀ x, ¬ x = 122 → u4.1 x = u3.1 x := fun x e => by rw [g4]; exact uI_ne _ _ _ _ e
  have v5 : ∀ x, ¬ x = 97 → u5.1 x = u4.1 x := fun x e => by rw [g5]; exact uI_ne _ _ _ _ e
  have v6 : ∀ x, ¬ x = 97 → u6.1 x = u5.1 x := fun x e => by rw [g6]; exact uI_ne _ _ _ _ e
  have w4 : u4.1 97 = s.1 97 := by rw [v4 97 (by decide), v3 97 (by decide), v2 97 (by decide), v1 97 (by decide)]
  have w5 : ∀ j, ¬ j = 64 → u5.1 97 j = s.1 97 j := fun j e => by rw [g5, uI_same, w4]; exact if_neg e
  have w6 : ∀ j, ¬ j = 64 → ¬ j = 5 → u6.1 97 j = s.1 97 j := fun j e e' => by rw [g6, uI_same, upd_g, if_neg e', w5 j e]
  have l6 : u6.2 = s.2 := by rw [g6, g5, g4, g3, g2, g1]; rfl
  have m6 : MB tx n u6 := by
    obtain ⟨p1, p2, p3, p4, p5⟩ := hm
    refine ⟨p1, by rw [w6 2 (by decide) (by decide), p2], ?_, p4, fun i hi => by rw [l6]; exact p5 i hi⟩
    rw [v6 98 (by decide), v5 98 (by decide), v4 98 (by decide), v3 98 (by decide), v2 98 (by decide), v1 98 (by decide), p3]
  have z5 : u6.1 97 5 = 0 := by rw [g6, uI_same]; exact if_pos rfl
  have z64 : u6.1 97 64 = 0 := by rw [g6, uI_same, upd_g, if_neg (by decide), g5, uI_same]; exact if_pos rfl
  have z100 : u6.1 100 b = 0 := by rw [v6 _ (by decide), v5 _ (by decide), v4 _ (by decide), v3 _ (by decide), v2 _ (by decide), g1, uI_same]; exact if_pos rfl
  have z120 : u6.1 120 b = 0 := by rw [v6 _ (by decide), v5 _ (by decide), v4 _ (by decide), v3 _ (by decide), g2, uI_same]; exact if_pos rfl
  have z121 : u6.1 121 b = 0 := by rw [v6 _ (by decide), v5 _ (by decide), v4 _ (by decide), g3, uI_same]; exact if_pos rfl
  have z122 : u6.1 122 b = 0 := by rw [v6 _ (by decide), v5 _ (by decide), g4, uI_same]; exact if_pos rfl
  have o6 : offRd b s u6 := by
    rw [g6, g5, g4, g3, g2, g1]
    exact (((offG.w (by unfold chRd; omega)).tr (offG.w (h := 120) (by unfold chRd; omega))).tr (offG.w (h := 121) (by unfold chRd chS chE; omega))).tr (((offG.w (h := 122) (by unfold chRd chS chE; omega)).tr (offG.w (h := 97) (j := 64) (by unfold chRd chS chE; omega))).tr (offG.w (h := 97) (j := 5) (by unfold chRd chS chE; omega)))
  obtain ⟨s1, e1, t1, r1⟩ := x_mt0 (d := D + 12) m6 z5
  have q97 : ∀ j, ¬ j = 3 → ¬ j = 4 → ¬ j = 5 → ¬ j = 6 → s1.1 97 j = u6.1 97 j := r1.2.1
  have qx : ∀ x, ¬ x = 97 → s1.1 x = u6.1 x := r1.1
  obtain ⟨mw, hmw⟩ := nI_srj (s1.1 97 76)
  obtain ⟨W, hW⟩ : ∃ W : List WF, W = (List.range mw).map (fun i => (s1.1 151 i, s1.1 152 i, s1.1 153 i, s1.1 154 i, s1.1 182 i)) := ⟨_, rfl⟩
  have a1 : MR tx n b s1 0 0 W [] [] := by
    refine ⟨⟨m6.off r1, t1⟩, ⟨hb, ?_, ?_, ?_⟩, ⟨?_, fun i f hf => ?_⟩, ⟨?_, fun i x hx => by cases hx⟩, ?_, fun i t ht => by cases ht⟩
    · rw [q97 61 (by decide) (by decide) (by decide) (by decide), w6 61 (by decide) (by decide), h61]
    · rw [q97 63 (by decide) (by decide) (by decide) (by decide), w6 63 (by decide) (by decide), h63]
    · rw [q97 64 (by decide) (by decide) (by decide) (by decide), z64]; rfl
    · rw [hmw, hW, List.length_map, List.length_range]
    · rw [hW, List.getElem?_map] at hf
      by_cases hi : i < mw
      · rw [List.getElem?_range hi] at hf
        have ef : (s1.1 151 i, s1.1 152 i, s1.1 153 i, s1.1 154 i, s1.1 182 i) = f := by simpa using hf
        subst ef
        exact ⟨rfl, rfl, rfl, rfl, rfl⟩
      · rw [List.getElem?_eq_none (by rw [List.length_range]; omega)] at hf
        cases hf
    · rw [qx 122 (by decide), z122]; rfl
    · rw [qx 121 (by decide), z121]; rfl
  have rc1 : RCs (mTT tx n) b s1 [] [] := ⟨by rw [qx 100 (by decide), z100]; rfl, by rw [qx 120 (by decide), z120]; rfl, fun c E hE => by cases hE⟩
  have r01 : offRd b s s1 := o6.tr (offRd_S (offS_of r1.E))
  have pre : mjF (D + 16) 261 [.ref 97] (mjW0 s) = lC D mjN s1 := by
    rw [e_261]
    unfold f_261 b_261_0
    rw [xg_97_11, xg_97_63, h63, xs_100, if_pos (mj_in_nI (by omega) (by decide)), nI_clamp (by omega), ← g1, xg_97_31, xg_97_63, v1 97 (by decide), h63, xs_120, if_pos (mj_in_nI (by omega) (by decide)), nI_clamp (by omega), ← g2, xg_97_32, xg_97_63, v2 97 (by decide), v1 97 (by decide), h63, xs_121, if_pos (mj_in_nI (by omega) (by decide)), nI_clamp (by omega), ← g3, xg_97_33, xg_97_63, v3 97 (by decide), v2 97 (by decide), v1 97 (by decide), h63, xs_122, if_pos (mj_in_nI (by omega) (by decide)), nI_clamp (by omega), ← g4, xp_97_64, ← g5, xp_97_5, ← g6, xV_97, e1, bN_s]
    rfl
  have I := cls_ok (D := D) (b := b) h0 hN 17 (0, [], [], [], []) s1 W rfl (by show 0 ≤ 16; omega) (by show 0 ≤ N; omega) (by show 6 * 0 ≤ 7 * 0; omega) (by show 4 * 0 ≤ 0; omega) (fun c E hE => by cases hE) a1 rc1
  unfold pText
  cases hc : pClasses (mTT tx n) (N + 1) (800 * b) 17 (0, [], [], [], []) with
  | inl e =>
    rw [hc] at I
    obtain ⟨s2, j, x, i1, i2, i3, i4⟩ := I
    obtain ⟨q, hq⟩ : ∃ q, mjN = q + j := ⟨mjN - j, by omega⟩
    exact ⟨s2, x, by rw [pre, hq]; exact i1 q, i3, r01.tr i4⟩
  | inr z =>
    rw [hc] at I
    obtain ⟨i1, i2, i3, i4, i5, i6, s2, j, W2, j1, j2, a2, rc2, r2⟩ := I
    obtain ⟨q, hq⟩ : ∃ q, mjN = (q + 1) + j := ⟨mjN - j - 1, by omega⟩
    have pre2 : mjF (D + 16) 261 [.ref 97] (mjW0 s) = lC D (q + 1) s2 := by rw [pre, hq]; exact j1 _
    obtain ⟨K9, Kn⟩ := m_main (D := D) h0 hN i2 i4 i5 a2 i1 q
    by_cases e9 : (mTT tx n z.1).1 = 9
    · simp only [if_pos e9]
      have G := K9 e9
      cases hp : prS (mTT tx n) (N + 1) 30 0 0 (z.1 + 1) 0 (800 * b + z.2.2.1.length) z.2.2.2.1.length with
      | inl e =>
        rw [hp] at G
        obtain ⟨s3, x, c1, c2, c3⟩ := G
        exact ⟨s3, x, by rw [pre2, c1], c2, r01.tr (r2.tr c3)⟩
      | inr y =>
        rw [hp] at G
        by_cases e0 : (mTT tx n y.1).1 = 0
        · simp only [if_pos e0]
          obtain ⟨⟨b1, b2, b3, b4, b5⟩, s3, W3, c1, c2, c3, c4, c5, c6, c7⟩ := G.1 e0
          refine ⟨s3, W3, y.1, by rw [pre2, c1], ?_, ⟨?_, ?_, fun c E hE => ?_⟩, c3, i3, i6, ?_, ?_, b5, r01.tr (r2.tr c7)⟩
          · rw [List.append_assoc]; exact c2
          · rw [c5 100 b (by omega)]; exact rc2.1
          · rw [c5 120 b (by omega)]; exact rc2.2.1
          · exact (rc2.2.2 c E hE).q c5 c6
          · simp only [List.length_append, List.length_cons, List.length_nil]; omega
          · simp only [List.length_append]; omega
        · simp only [if_neg e0]
          obtain ⟨s3, x, c1, c2, c3⟩ := G.2 e0
          exact ⟨s3, x, by rw [pre2, c1], c2, r01.tr (r2.tr c3)⟩
    · simp only [if_neg e9]
      obtain ⟨s3, x, c1, c2, c3⟩ := Kn e9
      exact ⟨s3, x, by rw [pre2, c1], c2, r01.tr (r2.tr c3)⟩
end MJA0
