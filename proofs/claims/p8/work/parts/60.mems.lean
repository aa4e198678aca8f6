/-! ===== all MEMBERS of a CLASS ===== -/
theorem uL_g (s : mjSt3) (h : Nat) (f : Nat → Int64) (h' j : Nat) : (uL s h f).2.1 h' j = if h' = h then f j else s.2.1 h' j := by
  by_cases e : h' = h
  · rw [if_pos e, e, uL_same]
  · rw [if_neg e, uL_ne _ _ _ _ e]
theorem updL_g (f : Nat → Int64) (j : Nat) (v : Int64) (i : Nat) : vp_updL f j v i = if i = j then v else f i := rfl
section MJ60
variable {T : TT} {d N c q ci m : Nat} {s : mjSt3} {f p o v : Int32} {ag : Nat → Int32}
def bn (b : Bool) : Nat := if b = true then 1 else 0
/-- what a MEMBER's reading leaves -/
def memR (q ci m k a b : Nat) (s s' : mjSt3) (md : MD) : Prop := offM q ci m s s' ∧ MF q ci m (if md.2.2.1 = true then a else b) s' md ∧ s'.1 (q + 14) 0 = nI (m + 1) ∧ s'.1 (q + 10) ci = nI (k + 1) ∧ s'.1 (q + 6) ci = nI (a + bn md.2.2.1) ∧ s'.1 (q + 7) ci = nI (b + bn (!md.2.2.1))
theorem faS_at : (faS s q ci m).1 (q + 19) = upd (s.1 (q + 19)) m (s.1 (q + 7) ci) ∧ (faS s q ci m).1 (q + 7) = upd (s.1 (q + 7)) ci (s.1 (q + 7) ci + 1) ∧ (∀ h, ¬ h = q + 19 → ¬ h = q + 7 → (faS s q ci m).1 h = s.1 h) ∧ (faS s q ci m).2 = s.2 := by
  unfold faS
  refine ⟨?_, ?_, fun h a b => ?_, rfl⟩
  · rw [uI_ne _ _ _ _ (by omega), uI_same]
  · rw [uI_same]
  · rw [uI_ne _ _ _ _ b, uI_ne _ _ _ _ a]
theorem mcS_at {c1 : Nat} : (mcS s q m c1).1 69 = upd (s.1 69) m (nI c1) ∧ (∀ h, ¬ h = 69 → (mcS s q m c1).1 h = s.1 h) ∧ (mcS s q m c1).2.1 (q + 15) = vp_updL (s.2.1 (q + 15)) m (s.2.1 62 c1) ∧ (∀ h, ¬ h = q + 15 → (mcS s q m c1).2.1 h = s.2.1 h) := by
  unfold mcS
  refine ⟨?_, fun h a => ?_, ?_, fun h a => ?_⟩
  · rw [uL_i, uI_same]
  · rw [uL_i, uI_ne _ _ _ _ a]
  · rw [uL_same]
  · rw [uL_ne _ _ _ _ a]; rfl
theorem mtS_at (hQ : isP q) {k c2 td : Nat} : (mtS s q ci m k c2 td).1 (q + 18) = upd (s.1 (q + 18)) m 1 ∧ (mtS s q ci m k c2 td).1 (q + 19) = upd (s.1 (q + 19)) m (s.1 (q + 6) ci) ∧ (mtS s q ci m k c2 td).1 (q + 6) = upd (s.1 (q + 6)) ci (s.1 (q + 6) ci + 1) ∧ (mtS s q ci m k c2 td).1 (q + 20) = upd (s.1 (q + 20)) m (nI k) ∧ (mtS s q ci m k c2 td).1 70 = upd (s.1 70) m (nI c2) ∧ (mtS s q ci m k c2 td).1 (q + 22) = upd (s.1 (q + 22)) m (nI td) ∧ (∀ h, ¬ h = q + 18 → ¬ h = q + 19 → ¬ h = q + 6 → ¬ h = q + 20 → ¬ h = 70 → ¬ h = q + 22 → (mtS s q ci m k c2 td).1 h = s.1 h) ∧ (mtS s q ci m k c2 td).2 = s.2 := by
  have hq : q = 2 ∨ q = 30 := hQ
  have f := meS_at (s := s) (q := q) (ci := ci) (m := m)
  unfold mtS bsP
  refine ⟨?_, ?_, ?_, ?_, ?_, ?_, fun h a b e g i j => ?_, f.2.2.2.2⟩
  · rw [uI_ne _ _ _ _ (by omega), uI_ne _ _ _ _ (by omega), uI_ne _ _ _ _ (by omega), f.1]
  · rw [uI_ne _ _ _ _ (by omega), uI_ne _ _ _ _ (by omega), uI_ne _ _ _ _ (by omega), f.2.1]
  · rw [uI_ne _ _ _ _ (by omega), uI_ne _ _ _ _ (by omega), uI_ne _ _ _ _ (by omega), f.2.2.1]
  · rw [uI_ne _ _ _ _ (by omega), uI_ne _ _ _ _ (by omega), uI_same, f.2.2.2.1 (q + 20) (by omega) (by omega) (by omega)]
  · rw [uI_ne _ _ _ _ (by omega), uI_same, uI_ne _ _ _ _ (by omega), f.2.2.2.1 70 (by omega) (by omega) (by omega)]
  · rw [uI_same, uI_ne _ _ _ _ (by omega), uI_ne _ _ _ _ (by omega), f.2.2.2.1 (q + 22) (by omega) (by omega) (by omega)]
  · rw [uI_ne _ _ _ _ j, uI_ne _ _ _ _ i, uI_ne _ _ _ _ g, f.2.2.2.1 h a b e]
theorem up_same (f : Nat → Int32) (j : Nat) (v : Int32) : upd f j v j = v := if_pos rfl
theorem memR_f (hQ : isP q) {k a b c1 : Nat} {kk : Int32} (h6 : s.1 (q + 6) ci = nI a) (h7 : s.1 (q + 7) ci = nI b) (z18 : s.1 (q + 18) m = 0) (z20 : s.1 (q + 20) m = 0) : memR q ci m k a b s (faS (mcS (mbS s q ci m c k) q m c1) q ci m) (c, c1, false, [], 0, 0, 0, kk) := by
  have hq : q = 2 ∨ q = 30 := hQ
  have F := faS_at (s := mcS (mbS s q ci m c k) q m c1) (q := q) (ci := ci) (m := m)
  have C := mcS_at (s := mbS s q ci m c k) (q := q) (m := m) (c1 := c1)
  have B := mbS_at (s := s) (q := q) (ci := ci) (m := m) (c := c) (k := k) hQ
  have g : ∀ h, ¬ h = q + 19 → ¬ h = q + 7 → ¬ h = 69 → ¬ h = q + 14 → ¬ h = q + 10 → ¬ h = q + 16 → ¬ h = 68 → (faS (mcS (mbS s q ci m c k) q m c1) q ci m).1 h = s.1 h := fun h a b e x y z w => (F.2.2.1 h a b).trans ((C.2.1 h e).trans (B.2.2.2.2.1 h x y z w))
  have e7 : (mcS (mbS s q ci m c k) q m c1).1 (q + 7) = s.1 (q + 7) := (C.2.1 (q + 7) (by omega)).trans (B.2.2.2.2.1 (q + 7) (by omega) (by omega) (by omega) (by omega))
  refine ⟨((mbS_off hQ).tr (mcS_off c1)).tr faS_off, ⟨?_, ?_, ?_, ?_, ?_, ?_, ?_, fun h => nomatch h⟩, ?_, ?_, ?_, ?_⟩
  · rw [F.2.2.1 (q + 16) (by omega) (by omega), C.2.1 (q + 16) (by omega), B.2.2.1, up_same]
  · rw [F.2.2.1 68 (by omega) (by omega), C.2.1 68 (by omega), B.2.2.2.1, up_same]
  · rw [F.2.2.1 69 (by omega) (by omega), C.1, up_same]
  · rw [F.2.2.2, C.2.2.1, C.2.2.2 62 (by omega), B.2.2.2.2.2, updL_g, if_pos rfl]
  · rw [g (q + 18) (by omega) (by omega) (by omega) (by omega) (by omega) (by omega) (by omega), z18, if_neg (show ¬ false = true by decide)]
  · rw [F.1, up_same, e7, h7, if_neg (show ¬ false = true by decide)]
  · rw [g (q + 20) (by omega) (by omega) (by omega) (by omega) (by omega) (by omega) (by omega), z20, List.length_nil, nI_0]
  · rw [F.2.2.1 (q + 14) (by omega) (by omega), C.2.1 (q + 14) (by omega), B.1, up_same]
  · rw [F.2.2.1 (q + 10) (by omega) (by omega), C.2.1 (q + 10) (by omega), B.2.1, up_same]
  · rw [g (q + 6) (by omega) (by omega) (by omega) (by omega) (by omega) (by omega) (by omega), h6, show bn false = 0 from rfl, Nat.add_zero]
  · rw [F.2.1, up_same, e7, h7, nI_1, show bn (!false) = 1 from rfl]
theorem memR_m (hQ : isP q) {k a b c1 c2 td oi : Nat} {ps : List (Nat × Nat × Int32)} {kk : Int32} (h6 : s.1 (q + 6) ci = nI a) (h7 : s.1 (q + 7) ci = nI b) : memR q ci m k a b s (mtS (mcS (mbS s q ci m c k) q m c1) q ci m ps.length c2 td) (c, c1, true, ps, c2, td, oi, kk) := by
  have hq : q = 2 ∨ q = 30 := hQ
  have F := mtS_at (s := mcS (mbS s q ci m c k) q m c1) (q := q) (ci := ci) (m := m) (k := ps.length) (c2 := c2) (td := td) hQ
  have C := mcS_at (s := mbS s q ci m c k) (q := q) (m := m) (c1 := c1)
  have B := mbS_at (s := s) (q := q) (ci := ci) (m := m) (c := c) (k := k) hQ
  have e6 : (mcS (mbS s q ci m c k) q m c1).1 (q + 6) = s.1 (q + 6) := (C.2.1 (q + 6) (by omega)).trans (B.2.2.2.2.1 (q + 6) (by omega) (by omega) (by omega) (by omega))
  refine ⟨((mbS_off hQ).tr (mcS_off c1)).tr (mtS_off _ _ _), ⟨?_, ?_, ?_, ?_, ?_, ?_, ?_, fun _ => ⟨?_, ?_⟩⟩, ?_, ?_, ?_, ?_⟩
  · rw [F.2.2.2.2.2.2.1 (q + 16) (by omega) (by omega) (by omega) (by omega) (by omega) (by omega), C.2.1 (q + 16) (by omega), B.2.2.1, up_same]
  · rw [F.2.2.2.2.2.2.1 68 (by omega) (by omega) (by omega) (by omega) (by omega) (by omega), C.2.1 68 (by omega), B.2.2.2.1, up_same]
  · rw [F.2.2.2.2.2.2.1 69 (by omega) (by omega) (by omega) (by omega) (by omega) (by omega), C.1, up_same]
  · rw [F.2.2.2.2.2.2.2, C.2.2.1, C.2.2.2 62 (by omega), B.2.2.2.2.2, updL_g, if_pos rfl]
  · rw [F.1, up_same, if_pos (show true = true from rfl)]
  · rw [F.2.1, up_same, e6, h6, if_pos (show true = true from rfl)]
  · rw [F.2.2.2.1, up_same]
  · rw [F.2.2.2.2.1, up_same]
  · rw [F.2.2.2.2.2.1, up_same]
  · rw [F.2.2.2.2.2.2.1 (q + 14) (by omega) (by omega) (by omega) (by omega) (by omega) (by omega), C.2.1 (q + 14) (by omega), B.1, up_same]
  · rw [F.2.2.2.2.2.2.1 (q + 10) (by omega) (by omega) (by omega) (by omega) (by omega) (by omega), C.2.1 (q + 10) (by omega), B.2.1, up_same]
  · rw [F.2.2.1, up_same, e6, h6, nI_1, show bn true = 1 from rfl]
  · rw [F.2.2.2.2.2.2.1 (q + 7) (by omega) (by omega) (by omega) (by omega) (by omega) (by omega), C.2.1 (q + 7) (by omega), B.2.2.2.2.1 (q + 7) (by omega) (by omega) (by omega) (by omega), h7, show bn (!true) = 0 from rfl, Nat.add_zero]
theorem x_mem (hT : TH T N s) (hQ : RQ q s) (hi : ci < 16) {k : Nat} (hm : m < 384 ∨ k = 24) {D kq i0 a b : Nat} (hk : k ≤ 24) (hc : c ≤ N) (hD : 191 ≤ D) (hty : tyS (T c).1 = true) (h14 : s.1 (q + 14) 0 = nI m) (h10 : s.1 (q + 10) ci = nI k) (h6 : s.1 (q + 6) ci = nI a) (h7 : s.1 (q + 7) ci = nI b) (z18 : s.1 (q + 18) m = 0) (z20 : s.1 (q + 20) m = 0) : match pMem T (N + 1) k c kq i0 with
    | .inl e => mbOK q ci m s T N (mjF D 136 [.ref 64, .int (nI ci), .int (nI k)] (mjW0 (eR s (c, 0, p, nI 1, v, ag)))) e
    | .inr r => r.1 ≤ N ∧ ∃ s' v', mjF D 136 [.ref 64, .int (nI ci), .int (nI k)] (mjW0 (eR s (c, 0, p, nI 1, v, ag))) = some (none, mjW0 (eR s' (r.1, 0, p, nI 1, v', rAg r.2.2.2.2 ag))) ∧ memR q ci m k a b s s' r.2.1 := by
  obtain ⟨D, rfl⟩ : ∃ e, D = e + 191 := ⟨D - 191, by omega⟩
  unfold pMem
  by_cases k24 : k = 24
  · subst k24
    have h1 : ¬ (T c).1 = 1 := fun e => by rw [e] at hty; exact absurd hty (by decide)
    rw [if_pos rfl, e_136]
    unfold f_136 b_136_0 b_136_21
    rw [xg_64_2, eR_2, hQ.2.2, ymg_0 hQ.1, if_pos (show nI 24 = 24 from rfl), xg_64_0, xV_58, u_ref3 hT hc h1, bN_s]
    exact ⟨Or.inr (Or.inr rfl), _, _, _, _, rfl, offG.rf⟩
  have hm' : m < 384 := hm.resolve_right k24
  rw [if_neg k24]
  have ob : offM q ci m s (mbS s q ci m c k) := mbS_off hQ.1
  have hTb := hT.offM hQ.1 ob
  have hQb := hQ.offM ob
  have h := x_type (d := D + 187) (p := p) (o := nI 1) (v := v) (ag := ag) hTb hc
  cases hd : pType T c with
  | inl e =>
    rw [hd] at h
    obtain ⟨he, h⟩ := h
    have oc : offM q ci m (mbS s q ci m c k) (mcS (mbS s q ci m c k) q m N) := mcS_off N
    have zc : (mcS (mbS s q ci m c k) q m N).1 (q + 20) m = 0 := by
      have : (mcS (mbS s q ci m c k) q m N).1 (q + 20) = s.1 (q + 20) := by
        unfold mcS
        have hq : q = 2 ∨ q = 30 := hQ.1
        rw [uL_i, uI_ne _ _ _ _ (by omega), (mbS_at hQ.1).2.2.2.2.1 (q + 20) (by omega) (by omega) (by omega) (by omega)]
      rw [this]; exact z20
    obtain ⟨s', o', v', k', r⟩ := n_k136 (d := D + 186) (p := (T e.2).2.1) (o := nI 1) (v := v) (ag := ag) (hTb.offM hQ.1 oc) (hQb.offM oc) hi (by omega) (in_n0 he) zc
    rw [x_136a hT hQ hi hm' (by omega) hc (by omega) h14 h10 (Nat.le_refl N) h, u_needN (hTb.offM hQ.1 oc) (in_n0 he), bN_s, k']
    exact ⟨he, _, _, _, _, rfl, (ob.tr oc).tr r⟩
  | inr c1 =>
    rw [hd] at h
    obtain ⟨hc1, h⟩ := h
    have oc : offM q ci m (mbS s q ci m c k) (mcS (mbS s q ci m c k) q m c1) := mcS_off c1
    have hTc := hTb.offM hQ.1 oc
    have hQc := hQb.offM oc
    have zc : (mcS (mbS s q ci m c k) q m c1).1 (q + 20) m = 0 := by
      have : (mcS (mbS s q ci m c k) q m c1).1 (q + 20) = s.1 (q + 20) := by
        unfold mcS
        have hq : q = 2 ∨ q = 30 := hQ.1
        rw [uL_i, uI_ne _ _ _ _ (by omega), (mbS_at hQ.1).2.2.2.2.1 (q + 20) (by omega) (by omega) (by omega) (by omega)]
      rw [this]; exact z20
    rw [x_136a hT hQ hi hm' (by omega) hc (by omega) h14 h10 hc1 h]
    by_cases h3 : (T c1).1 = 3
    · have hl := lt_of hT hc1 h3 (by decide)
      rw [u_need hTc hc1 h3 (by decide), bN_s]
      simp only [if_pos h3]
      by_cases h59 : (T (c1 + 1)).1 = 59
      · have hl1 := lt_of hT (c := c1 + 1) (by omega) h59 (by decide)
        rw [k136_f (d := D + 186) hTc hQc hi (by omega) (c := c1 + 1) (by omega) h59]
        simp only [if_pos h59]
        exact ⟨by show c1 + 2 ≤ N; omega, _, _, rfl, memR_f hQ.1 h6 h7 z18 z20⟩
      · simp only [if_neg h59]
        have r := x_k136 (D := D + 190) (kq := kq + (tyL T c).length) (i0 := i0) (p := p) (v := v) (ag := ag) hTc hQc hi (by omega) (c := c1 + 1) (by omega) (by omega) zc h59
        cases hP : pParams T (kq + (tyL T c).length) (c1 + 1) with
        | inl e =>
          rw [hP] at r
          obtain ⟨he, s', o', v', ag', r, w⟩ := r
          exact ⟨he, s', o', v', ag', r, (ob.tr oc).tr w⟩
        | inr y =>
          rw [hP] at r
          replace r : match prS T (N + 1) 30 0 1 y.1 y.2.1.length (kq + (tyL T c).length + y.2.2.length) i0 with
            | .inl e => _
            | .inr z => _ := r
          show match (match prS T (N + 1) 30 0 1 y.1 y.2.1.length (kq + (tyL T c).length + y.2.2.length) i0 with
            | .inl e => .inl e
            | .inr z => .inr (z.1, (c, c1, true, y.2.1, y.1, z.2.1, i0, tyK T c kq), tyL T c ++ y.2.2 ++ z.2.2.1, z.2.2.2.1 ++ [oOver], z.2.2.2.2) : (Nat × Nat) ⊕ PR) with
            | .inl e => _
            | .inr r => _
          cases hS : prS T (N + 1) 30 0 1 y.1 y.2.1.length (kq + (tyL T c).length + y.2.2.length) i0 with
          | inl e =>
            rw [hS] at r
            obtain ⟨he, s', o', v', ag', r, w⟩ := r
            exact ⟨he, s', o', v', ag', r, (ob.tr oc).tr w⟩
          | inr z =>
            rw [hS] at r
            exact ⟨r.1, _, _, r.2, memR_m hQ.1 h6 h7⟩
    · obtain ⟨s', o', v', k', r⟩ := n_k136 (d := D + 186) (p := (T (F2 T c1).2).2.1) (o := nI 1) (v := v) (ag := ag) hTc hQc hi (by omega) (F2_n0 T c1) zc
      rw [u_need2 hTc hc1 h3, bN_s, k']
      simp only [if_neg h3]
      exact ⟨F2_in T _, _, _, _, _, rfl, (ob.tr oc).tr r⟩
end MJ60
