/-! ===== the class reads a TEXT so: all of it ===== -/
section MJ64
variable {T : TT} {N q : Nat} {s : mjSt3} {f p o v : Int32} {ag : Nat → Int32}
theorem CI.bound {L : List CD} (h : ∀ (c : Nat) (D : CD), L[c]? = some D → D.2.length ≤ 24) : nMem L ≤ 24 * L.length := by
  induction L with
  | nil => exact Nat.le_refl 0
  | cons D L ih =>
    have a := h 0 D rfl
    have b := ih (fun c E hc => h (c + 1) E hc)
    have e : nMem (D :: L) = D.2.length + nMem L := rfl
    rw [e, List.length_cons]
    omega
/-- a CLASS is read behind those of L -/
theorem CI.snoc {L : List CD} {s s1 s2 : mjSt3} {hd : HD} {l : List MD} (hq : isP q) (h : CI T q s L) (o : offR q L.length (nMem L) s s2) (m : MI T q L.length (nMem L) s2 hd l) : CI T q s2 (L ++ [(hd, l)]) := by
  obtain ⟨a1, a2, a3, a4, a5, a6, a7, a8⟩ := m
  have el : (L ++ [(hd, l)]).length = L.length + 1 := by rw [List.length_append]; rfl
  refine ⟨?_, ?_, ?_, fun c D hc => ?_⟩
  · rw [a2, el]
  · rw [a3, nMem_app]
  · rw [el, nMem_app]; exact a8
  · by_cases hl : c < L.length
    · rw [List.getElem?_append_left hl] at hc
      rw [List.take_append_of_le_length (by omega)]
      exact (h.2.2.2 c D hc).off hq o hl (nMem_take hc)
    · have hc' := (List.getElem?_eq_some_iff.mp hc).1
      rw [el] at hc'
      have e : c = L.length := by omega
      subst e
      rw [List.getElem?_append_right (Nat.le_refl _), Nat.sub_self] at hc
      have e2 : (hd, l) = D := by simpa using hc
      subst e2
      rw [List.take_append_of_le_length (Nat.le_refl _), List.take_length]
      exact ⟨a1, a4, a5, a6, a7⟩
theorem x_cls {D kq : Nat} (hD : 197 ≤ D) : ∀ (f n : Nat) (z : PC) (s : mjSt3) (v : Int32), TH T N s → RQ q s → CI T q s z.2.1 → (∀ (c : Nat) (E : CD), z.2.1[c]? = some E → E.2.length ≤ 24) → f + z.2.1.length = 17 → z.2.1.length ≤ 16 → f < n → z.1 ≤ N → match pClasses T (N + 1) kq f z with
    | .inl e => tbOK q s T N (L_126_20 (mjF D) n 64 (nI z.2.1.length) (mjW0 (eR s (z.1, 0, p, nI 0, v, rAg z.2.2.2.2 ag)))) e
    | .inr y => y.1 ≤ N ∧ y.2.1.length ≤ 16 ∧ (∀ (c : Nat) (E : CD), y.2.1[c]? = some E → E.2.length ≤ 24) ∧ ∃ s' v', L_126_20 (mjF D) n 64 (nI z.2.1.length) (mjW0 (eR s (z.1, 0, p, nI 0, v, rAg z.2.2.2.2 ag))) = b_126_81 (mjF D) 64 (mjW0 (eR s' (y.1, 0, p, nI 0, v', rAg y.2.2.2.2 ag))) ∧ TH T N s' ∧ RQ q s' ∧ CI T q s' y.2.1 ∧ offL q s s' ∧ (∀ h, h = q + 16 ∨ h = q + 18 ∨ h = q + 20 → s'.1 h 384 = s.1 h 384) := by
  obtain ⟨D, rfl⟩ : ∃ e, D = e + 197 := ⟨D - 197, by omega⟩
  intro f
  induction f with
  | zero => intro n z s v hT hQ hC hB hf; omega
  | succ f ih =>
    intro n z s v hT hQ hC hB hf hl hn hz
    obtain ⟨n, rfl⟩ : ∃ x, n = x + 1 := ⟨n - 1, by omega⟩
    rw [L20_S]
    unfold b_126_20 pClasses
    rw [if_neg (show ¬ (16 : Int32) < nI z.2.1.length from nI_nlt (a := 16) hl (by omega)), xg_64_0, xV_58, u_is hT hz, bI_s, i01]
    by_cases h5 : (T z.1).1 = 5
    · rw [if_pos h5, if_pos h5, xV_64]
      have hbm := CI.bound hB
      have hx := x_head (d := D + 192) (p := p) (v := v) (ag := rAg z.2.2.2.2 ag) hT hQ hl (o := 0) (by omega) hz h5 hC.1 hC.2.1 (fun h => (hC.2.2.1.1 _ (Nat.le_refl _) h).1) (fun h => (hC.2.2.1.1 _ (Nat.le_refl _) h).2.1)
      unfold pClass
      cases hH : pHead T z.2.1.length z.1 with
      | inl e =>
        rw [hH] at hx
        obtain ⟨he, s', o', v', ag', hx, r⟩ := hx
        obtain ⟨n, rfl⟩ : ∃ x, n = x + 1 := ⟨n - 1, by omega⟩
        have hT1 := hT.off hQ.1 r
        have hQ1 := hQ.off r
        obtain ⟨s2, o2, v2, k, w⟩ := n_20 (d := D + 193) (p := (T e.2).2.1) (o := o' - 1) (v := v') (ag := ag') hT1 hQ1 (in_n0 he) n (nI z.2.1.length + 1)
        rw [show mjF (D + 197) 127 [.ref 64, .int (nI z.2.1.length)] (mjW0 (eR s (z.1, 0, p, nI 0, v, rAg z.2.2.2.2 ag))) = _ from hx, bN_s, show mjN = 99999999 + 1 from rfl, n_44 (d := D + 194) hT1 (in_n0 he), k]
        exact ⟨he, s2, o2, v2, ag', rfl, r.L.tr w⟩
      | inr r =>
        rw [hH] at hx
        obtain ⟨hr, s1, hx, o1, hf1, hq1, hk1⟩ := hx
        have h16 : z.2.1.length < 16 := by
          have : ¬ z.2.1.length = 16 := by
            intro e
            rw [show pHead T z.2.1.length z.1 = .inl (3, z.1) from if_pos e] at hH
            cases hH
          omega
        have hT1 := hT.off hQ.1 o1
        have hQ1 := hQ.off o1
        have fr := hC.2.2.1.1 z.2.1.length (Nat.le_refl _) h16
        have hM : MI T q z.2.1.length (nMem z.2.1) s1 r.2 [] := by
          have hq' : q = 2 ∨ q = 30 := hQ.1
          refine ⟨hf1, hq1, ?_, ?_, ?_, ?_, fun j md hj => (by simp at hj), ⟨fun j a b => ?_, fun j a b => ?_⟩⟩
          · rw [hk1.1, hC.2.1]; rfl
          · rw [hk1.2.2.2.1, fr.2.2.2.2]; rfl
          · rw [hk1.2.1, fr.2.2.1]; rfl
          · rw [hk1.2.2.1, fr.2.2.2.1]; rfl
          · have g := hC.2.2.1.1 j (by omega) b
            rw [o1.1 (q + 1) j (by unfold chR; omega), o1.1 (q + 3) j (by unfold chR; omega), hk1.2.1, hk1.2.2.1, hk1.2.2.2.1]
            exact g
          · rw [hk1.2.2.2.2.1, hk1.2.2.2.2.2.1]
            exact hC.2.2.1.2 j a b
        rw [show mjF (D + 197) 127 [.ref 64, .int (nI z.2.1.length)] (mjW0 (eR s (z.1, 0, p, nI 0, v, rAg z.2.2.2.2 ag))) = _ from hx, bN_s]
        have k := x_mems (D := D + 197) (kq := kq + z.2.2.1.length + (hdK r.2).length) (i0 := z.2.2.2.1.length) (p := p) (ag := rAg z.2.2.2.2 ag) (k20 := L_126_20 (mjF (D + 197)) n) (by omega) h16 hbm 25 mjN (r.1, [], [], [], []) s1 v hT1 hQ1 hM rfl (by show 0 ≤ 24; omega) (by unfold mjN; omega) hr
        show match (match (match pMems T (N + 1) (kq + z.2.2.1.length + (hdK r.2).length) z.2.2.2.1.length 25 (r.1, [], [], [], []) with
            | .inl e => .inl e
            | .inr y => if (T y.1).1 = 125 then .inr (y.1 + 1, (r.2, y.2.1), hdK r.2 ++ y.2.2.1, y.2.2.2.1, y.2.2.2.2) else .inl (F2 T y.1) : (Nat × Nat) ⊕ (Nat × CD × List Nat × List Row × List (Nat × Nat))) with
          | .inl e => .inl e
          | .inr r => pClasses T (N + 1) kq f (r.1, z.2.1 ++ [r.2.1], z.2.2.1 ++ r.2.2.1, z.2.2.2.1 ++ r.2.2.2.1, z.2.2.2.2 ++ r.2.2.2.2) : (Nat × Nat) ⊕ PC) with
          | .inl e => _
          | .inr y => _
        cases hP : pMems T (N + 1) (kq + z.2.2.1.length + (hdK r.2).length) z.2.2.2.1.length 25 (r.1, [], [], [], []) with
        | inl e =>
          rw [hP] at k
          obtain ⟨he, s2, o2, v2, ag2, k, w⟩ := k
          obtain ⟨n, rfl⟩ : ∃ x, n = x + 1 := ⟨n - 1, by omega⟩
          obtain ⟨s3, o3, v3, k3, w3⟩ := n_20 (d := D + 193) (p := (T e.2).2.1) (o := o2) (v := v2) (ag := ag2) (hT1.off hQ.1 w) (hQ1.off w) (in_n0 he) n (nI z.2.1.length + 1)
          rw [show L_126_44 (mjF (D + 197)) (L_126_20 (mjF (D + 197)) (n + 1)) mjN 64 (nI z.2.1.length) 0 (mjW0 (eR s1 (r.1, 0, p, nI (0 + 1), v, rAg z.2.2.2.2 ag))) = _ from k, k3]
          exact ⟨he, s3, o3, v3, ag2, rfl, (o1.L.tr w.L).tr w3⟩
        | inr y =>
          rw [hP] at k
          obtain ⟨hy, hy24, kg, kb⟩ := k
          by_cases h125 : (T y.1).1 = 125
          · obtain ⟨hy1, s2, v2, k, w, m2, m384⟩ := kg h125
            simp only [if_pos h125]
            have hT2 := hT1.off hQ.1 w
            have hQ2 := hQ1.off w
            have hC2 : CI T q s2 (z.2.1 ++ [(r.2, y.2.1)]) := CI.snoc (s1 := s1) hQ.1 hC (o1.tr w) m2
            have el : (z.2.1 ++ [(r.2, y.2.1)]).length = z.2.1.length + 1 := by rw [List.length_append]; rfl
            have hB2 : ∀ (c : Nat) (E : CD), (z.2.1 ++ [(r.2, y.2.1)])[c]? = some E → E.2.length ≤ 24 := by
              intro c E hc
              by_cases hl' : c < z.2.1.length
              · rw [List.getElem?_append_left hl'] at hc
                exact hB c E hc
              · have hc' := (List.getElem?_eq_some_iff.mp hc).1
                rw [el] at hc'
                have e : c = z.2.1.length := by omega
                subst e
                rw [List.getElem?_append_right (Nat.le_refl _), Nat.sub_self] at hc
                have e2 : (r.2, y.2.1) = E := by simpa using hc
                subst e2
                exact hy24
            have k2 := ih n (y.1 + 1, z.2.1 ++ [(r.2, y.2.1)], z.2.2.1 ++ (hdK r.2 ++ y.2.2.1), z.2.2.2.1 ++ y.2.2.2.1, z.2.2.2.2 ++ y.2.2.2.2) s2 v2 hT2 hQ2 hC2 hB2 (by rw [el]; omega) (by rw [el]; omega) (by omega) hy1
            rw [el] at k2
            rw [show L_126_44 (mjF (D + 197)) (L_126_20 (mjF (D + 197)) n) mjN 64 (nI z.2.1.length) 0 (mjW0 (eR s1 (r.1, 0, p, nI (0 + 1), v, rAg z.2.2.2.2 ag))) = _ from k, nI_1]
            rw [← rAg_app]
            show match pClasses T (N + 1) kq f (y.1 + 1, z.2.1 ++ [(r.2, y.2.1)], z.2.2.1 ++ (hdK r.2 ++ y.2.2.1), z.2.2.2.1 ++ y.2.2.2.1, z.2.2.2.2 ++ y.2.2.2.2) with
              | .inl e => _
              | .inr y => _
            cases hP2 : pClasses T (N + 1) kq f (y.1 + 1, z.2.1 ++ [(r.2, y.2.1)], z.2.2.1 ++ (hdK r.2 ++ y.2.2.1), z.2.2.2.1 ++ y.2.2.2.1, z.2.2.2.2 ++ y.2.2.2.2) with
            | inl e =>
              rw [hP2] at k2
              obtain ⟨he, s3, o3, v3, ag3, k3, w3⟩ := k2
              exact ⟨he, s3, o3, v3, ag3, k3, (o1.L.tr w.L).tr w3⟩
            | inr y2 =>
              rw [hP2] at k2
              obtain ⟨g1, g2, g3, s3, v3, k3, g4, g5, g6, g7, g8⟩ := k2
              refine ⟨g1, g2, g3, s3, v3, k3, g4, g5, g6, (o1.L.tr w.L).tr g7, fun h hh => ((g8 h hh).trans (m384 h hh)).trans ?_⟩
              rcases hh with hh | hh | hh
              · rw [hh, hk1.2.2.2.2.2.2]
              · rw [hh, hk1.2.2.2.2.1]
              · rw [hh, hk1.2.2.2.2.2.1]
          · obtain ⟨s2, o2, v2, ag2, k, w⟩ := kb h125
            simp only [if_neg h125]
            obtain ⟨n, rfl⟩ : ∃ x, n = x + 1 := ⟨n - 1, by omega⟩
            obtain ⟨s3, o3, v3, k3, w3⟩ := n_20 (d := D + 193) (p := (T (F2 T y.1).2).2.1) (o := o2) (v := v2) (ag := ag2) (hT1.off hQ.1 w) (hQ1.off w) (F2_n0 T y.1) n (nI z.2.1.length + 1)
            rw [show L_126_44 (mjF (D + 197)) (L_126_20 (mjF (D + 197)) (n + 1)) mjN 64 (nI z.2.1.length) 0 (mjW0 (eR s1 (r.1, 0, p, nI (0 + 1), v, rAg z.2.2.2.2 ag))) = _ from k, k3]
            exact ⟨F2_in T _, s3, o3, v3, ag2, rfl, (o1.L.tr w.L).tr w3⟩
    · rw [if_neg h5, if_neg h5]
      exact ⟨hz, hl, hB, s, v, rfl, hT, hQ, hC, offL.rf, fun _ _ => rfl⟩
end MJ64
