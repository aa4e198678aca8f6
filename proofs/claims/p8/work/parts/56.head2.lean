/-! ===== a CLASS's head, whole ===== -/
section MJ56
variable {T : TT} {d N c q ci fm : Nat} {s : mjSt3} {f p o v : Int32} {ag : Nat → Int32}
theorem u_place (hT : TH T N s) (hc : c ≤ N) {k : Nat} (hk : k ≤ N) : mjF (d + 1) 168 [.ref 58, .int (nI k)] (mjW0 (eR s (c, f, p, o, v, ag))) = some (some (.int (T k).2.1), mjW0 (eR s (c, f, p, o, v, ag))) := by
  rw [x_placeAt (eR_Tk hT.tb (show (c, f, p, o, v, ag).1 ≤ N from hc)) (by omega), eR_61, (hT.2.2.2 k hk).2]
/-- the base behind the head's first rows -/
def hd4 (T : TT) (s : mjSt3) (q ci fm c : Nat) : mjSt3 := uI (uI (uI (uI s q (upd (s.1 q) 0 (nI (ci + 1)))) (q + 9) (upd (s.1 (q + 9)) ci (nI fm))) 65 (upd (s.1 65) ci (nI (c + 1)))) (q + 2) (upd (s.1 (q + 2)) ci (T (c + 1)).2.1)
theorem hd4_off (hQ : isP q) : offR q ci fm s (hd4 T s q ci fm c) := by
  have hq : q = 2 ∨ q = 30 := hQ
  have a : offR q ci fm s (uI s q (upd (s.1 q) 0 (nI (ci + 1)))) := offR.w (Or.inl ⟨rfl, rfl⟩)
  have b : offR q ci fm _ (uI (uI s q (upd (s.1 q) 0 (nI (ci + 1)))) (q + 9) (upd ((uI s q (upd (s.1 q) 0 (nI (ci + 1)))).1 (q + 9)) ci (nI fm))) := offR.w (Or.inr (Or.inr (Or.inl ⟨by omega, rfl⟩)))
  rw [uI_ne _ _ _ _ (show ¬ q + 9 = q by omega)] at b
  have e : offR q ci fm _ (uI (uI (uI s q (upd (s.1 q) 0 (nI (ci + 1)))) (q + 9) (upd (s.1 (q + 9)) ci (nI fm))) 65 (upd ((uI (uI s q (upd (s.1 q) 0 (nI (ci + 1)))) (q + 9) (upd (s.1 (q + 9)) ci (nI fm))).1 65) ci (nI (c + 1)))) := offR.w (Or.inr (Or.inr (Or.inl ⟨by omega, rfl⟩)))
  rw [uI_ne _ _ _ _ (show ¬ 65 = q + 9 by omega), uI_ne _ _ _ _ (show ¬ 65 = q by omega)] at e
  have g : offR q ci fm _ (uI (uI (uI (uI s q (upd (s.1 q) 0 (nI (ci + 1)))) (q + 9) (upd (s.1 (q + 9)) ci (nI fm))) 65 (upd (s.1 65) ci (nI (c + 1)))) (q + 2) (upd ((uI (uI (uI s q (upd (s.1 q) 0 (nI (ci + 1)))) (q + 9) (upd (s.1 (q + 9)) ci (nI fm))) 65 (upd (s.1 65) ci (nI (c + 1)))).1 (q + 2)) ci (T (c + 1)).2.1)) := offR.w (Or.inr (Or.inr (Or.inl ⟨by omega, rfl⟩)))
  rw [uI_ne _ _ _ _ (show ¬ q + 2 = 65 by omega), uI_ne _ _ _ _ (show ¬ q + 2 = q + 9 by omega), uI_ne _ _ _ _ (show ¬ q + 2 = q by omega)] at g
  exact ((a.tr b).tr e).tr g
theorem hd4_at (hQ : isP q) : (hd4 T s q ci fm c).1 q 0 = nI (ci + 1) ∧ (hd4 T s q ci fm c).1 (q + 9) ci = nI fm ∧ (hd4 T s q ci fm c).1 65 ci = nI (c + 1) ∧ (hd4 T s q ci fm c).1 (q + 2) ci = (T (c + 1)).2.1 ∧ ∀ h, ¬ h = q → ¬ h = q + 9 → ¬ h = 65 → ¬ h = q + 2 → (hd4 T s q ci fm c).1 h = s.1 h := by
  have hq : q = 2 ∨ q = 30 := hQ
  unfold hd4
  refine ⟨?_, ?_, ?_, ?_, fun h a b e g => ?_⟩
  · rw [uI_ne _ _ _ _ (by omega), uI_ne _ _ _ _ (by omega), uI_ne _ _ _ _ (by omega), uI_same]; exact if_pos rfl
  · rw [uI_ne _ _ _ _ (by omega), uI_ne _ _ _ _ (by omega), uI_same]; exact if_pos rfl
  · rw [uI_ne _ _ _ _ (by omega), uI_same]; exact if_pos rfl
  · rw [uI_same]; exact if_pos rfl
  · rw [uI_ne _ _ _ _ g, uI_ne _ _ _ _ e, uI_ne _ _ _ _ b, uI_ne _ _ _ _ a]
theorem x_head (hT : TH T N s) (hQ : RQ q s) (hi : ci ≤ 16) {o : Nat} (ho : o < 12) (hc : c ≤ N) (h5 : (T c).1 = 5) (hcl : s.1 q 0 = nI ci) (hm : s.1 (q + 14) 0 = nI fm) (hz1 : ci < 16 → s.1 (q + 1) ci = 0) (hz3 : ci < 16 → s.1 (q + 3) ci = 0) : match pHead T ci c with
    | .inl e => hbOK q ci fm s T N (mjF (d + 5) 127 [.ref 64, .int (nI ci)] (mjW0 (eR s (c, 0, p, nI o, v, ag)))) e
    | .inr r => r.1 ≤ N ∧ ∃ s', mjF (d + 5) 127 [.ref 64, .int (nI ci)] (mjW0 (eR s (c, 0, p, nI o, v, ag))) = some (none, mjW0 (eR s' (r.1, 0, p, nI (o + 1), v, ag))) ∧ offR q ci fm s s' ∧ HF T q ci fm s' r.2 ∧ s'.1 q 0 = nI (ci + 1) ∧ HK q ci s s' := by
  have hq : q = 2 ∨ q = 30 := hQ.1
  have hl := lt_of hT hc h5 (by decide)
  rw [e_127]
  unfold f_127 b_127_0 pHead
  by_cases h16 : ci = 16
  · subst h16
    rw [if_pos (show nI 16 = 16 from rfl), if_pos rfl, xg_64_0, xV_58, u_ref3 hT hc (by rw [h5]; decide), bN_s]
    exact ⟨Or.inr (Or.inr rfl), _, _, _, _, rfl, offR.rf⟩
  have hi' : ci < 16 := by omega
  have n16 : ¬ nI ci = 16 := fun e => h16 ((nI_eq (a := ci) (b := 16) (by omega) (by omega)).mp e)
  have o4 : offR q ci fm s (hd4 T s q ci fm c) := hd4_off hQ.1
  have f4 := hd4_at (T := T) (s := s) (ci := ci) (fm := fm) (c := c) hQ.1
  have hT4 := hT.off hQ.1 o4
  have hQ4 := hQ.off o4
  have oa : offR q ci 0 s (uI (uI s q (upd (s.1 q) 0 (nI (ci + 1)))) (q + 9) (upd (s.1 (q + 9)) ci (nI fm))) := by
    have a : offR q ci 0 s (uI s q (upd (s.1 q) 0 (nI (ci + 1)))) := offR.w (Or.inl ⟨rfl, rfl⟩)
    have b : offR q ci 0 _ (uI (uI s q (upd (s.1 q) 0 (nI (ci + 1)))) (q + 9) (upd ((uI s q (upd (s.1 q) 0 (nI (ci + 1)))).1 (q + 9)) ci (nI fm))) := offR.w (Or.inr (Or.inr (Or.inl ⟨by omega, rfl⟩)))
    rw [uI_ne _ _ _ _ (show ¬ q + 9 = q by omega)] at b
    exact a.tr b
  have hTa := hT.off hQ.1 oa
  have hQa := hQ.off oa
  have ob : offR q ci 0 (uI (uI s q (upd (s.1 q) 0 (nI (ci + 1)))) (q + 9) (upd (s.1 (q + 9)) ci (nI fm))) (uI (uI (uI s q (upd (s.1 q) 0 (nI (ci + 1)))) (q + 9) (upd (s.1 (q + 9)) ci (nI fm))) 65 (upd (s.1 65) ci (nI (c + 1)))) := by
    have e : offR q ci 0 (uI (uI s q (upd (s.1 q) 0 (nI (ci + 1)))) (q + 9) (upd (s.1 (q + 9)) ci (nI fm))) (uI (uI (uI s q (upd (s.1 q) 0 (nI (ci + 1)))) (q + 9) (upd (s.1 (q + 9)) ci (nI fm))) 65 (upd ((uI (uI s q (upd (s.1 q) 0 (nI (ci + 1)))) (q + 9) (upd (s.1 (q + 9)) ci (nI fm))).1 65) ci (nI (c + 1)))) := offR.w (Or.inr (Or.inr (Or.inl ⟨by omega, rfl⟩)))
    rw [uI_ne _ _ _ _ (show ¬ 65 = q + 9 by omega), uI_ne _ _ _ _ (show ¬ 65 = q by omega)] at e
    exact e
  have hTb := hTa.off hQ.1 ob
  have hQb := hQa.off ob
  rw [if_neg n16, if_neg h16, xg_64_1, eR_2, hQ.2.1, yg_0 hQ.1, eR_p0 hQ.1, hcl, nI_1, yp_0 hQ.1, eR_p0 hQ.1, wR_p0 hQ.1, xg_64_1]
  rw [show (eR (uI s q (upd (s.1 q) 0 (nI (ci + 1)))) (c, 0, p, nI o, v, ag)).2.2 64 1 = q from hQ.2.1, yg_9 hQ.1, xg_64_2, show (eR (uI s q (upd (s.1 q) 0 (nI (ci + 1)))) (c, 0, p, nI o, v, ag)).2.2 64 2 = q + 14 from hQ.2.2, ymg_0 hQ.1, eR_p hQ.1 (by omega), uI_ne _ _ _ _ (show ¬ q + 14 = q by omega), hm, ys_9 hQ.1, if_pos (mj_in_nI hi' (by decide)), nI_clamp (by omega), eR_p hQ.1 (by omega), wR_p hQ.1 (by omega), uI_ne _ _ _ _ (show ¬ q + 9 = q by omega)]
  rw [xg_64_0, xV_58, u_skip hTa hl, bN_s, xg_64_3, xg_64_0, xV_58, u_now hTa (by omega), bI_s, xs_65, if_pos (mj_in_nI hi' (by decide)), nI_clamp (by omega), eR_r (by decide), wR_r (by decide), uI_ne _ _ _ _ (show ¬ 65 = q + 9 by omega), uI_ne _ _ _ _ (show ¬ 65 = q by omega)]
  rw [xg_64_1, eR_2, hQb.2.1, yg_2 hQ.1, xg_64_0, xg_64_0, xV_58, u_now hTb (by omega), bI_s, xV_58, u_place hTb (by omega) (by omega), bI_s, ys_2 hQ.1, if_pos (mj_in_nI hi' (by decide)), nI_clamp (by omega), eR_p hQ.1 (by omega), wR_p hQ.1 (by omega), uI_ne _ _ _ _ (show ¬ q + 2 = 65 by omega), uI_ne _ _ _ _ (show ¬ q + 2 = q + 9 by omega), uI_ne _ _ _ _ (show ¬ q + 2 = q by omega)]
  change match (if (T (c + 1)).1 = 2 then _ else _ : (Nat × Nat) ⊕ (Nat × HD)) with
    | .inl e => hbOK q ci fm s T N (gR (mjW0 (eR (hd4 T s q ci fm c) (c + 1, 0, p, nI o, v, ag))) 64 8 0 fun v25 => rV (mjW0 (eR (hd4 T s q ci fm c) (c + 1, 0, p, nI o, v, ag))) v25 9 (bN (mjF (d + 4) 169 [.ref v25, .int 2] (mjW0 (eR (hd4 T s q ci fm c) (c + 1, 0, p, nI o, v, ag)))) fun hp26 => rV hp26 64 8 (bN (mjF (d + 4) 128 [.ref 64, .int (nI ci)] hp26) fun hp27 => k127 (mjF (d + 4)) 64 (nI ci) hp27))) e
    | .inr r => r.1 ≤ N ∧ ∃ s', (gR (mjW0 (eR (hd4 T s q ci fm c) (c + 1, 0, p, nI o, v, ag))) 64 8 0 fun v25 => rV (mjW0 (eR (hd4 T s q ci fm c) (c + 1, 0, p, nI o, v, ag))) v25 9 (bN (mjF (d + 4) 169 [.ref v25, .int 2] (mjW0 (eR (hd4 T s q ci fm c) (c + 1, 0, p, nI o, v, ag)))) fun hp26 => rV hp26 64 8 (bN (mjF (d + 4) 128 [.ref 64, .int (nI ci)] hp26) fun hp27 => k127 (mjF (d + 4)) 64 (nI ci) hp27))) = some (none, mjW0 (eR s' (r.1, 0, p, nI (o + 1), v, ag))) ∧ offR q ci fm s s' ∧ HF T q ci fm s' r.2 ∧ s'.1 q 0 = nI (ci + 1) ∧ HK q ci s s'
  rw [xg_64_0, xV_58]
  by_cases h2 : (T (c + 1)).1 = 2
  · have hl1 := lt_of hT (c := c + 1) (by omega) h2 (by decide)
    rw [if_pos h2, u_need hT4 (c := c + 1) (by omega) h2 (by decide), bN_s, xV_64]
    have z1 : (hd4 T s q ci fm c).1 (q + 1) ci = 0 := by rw [f4.2.2.2.2 (q + 1) (by omega) (by omega) (by omega) (by omega)]; exact hz1 hi'
    have h := x_names (d := d + 1) (p := p) (o := nI o) (v := v) (ag := ag) hQ4 hT4 hi' (c := c + 1 + 1) (by omega) z1
    rw [show c + 1 + 1 + 1 = c + 3 from rfl, show c + 1 + 1 = c + 2 from rfl] at h
    rw [show c + 1 + 1 = c + 2 from rfl]
    by_cases h91 : (T (c + 2)).1 = 91
    · rw [if_pos h91] at h ⊢
      cases hd : pNames T 6 0 (c + 3) with
      | inl e =>
        rw [hd] at h
        obtain ⟨he, s', h, o'⟩ := h
        obtain ⟨s'', k, o''⟩ := n_k127 (d := d) (p := (T e.2).2.1) (o := nI o) (v := v) (ag := ag) (hT4.off hQ.1 (o' 0)) hQ.1 (in_n0 he) hi'
        rw [h, bN_s, k]
        exact ⟨he, s'', _, _, _, rfl, (o4.tr (o' fm)).tr (o'' fm)⟩
      | inr a =>
        rw [hd] at h
        obtain ⟨ha, ha5, h⟩ := h
        have o5 : ∀ fm, offR q ci fm (hd4 T s q ci fm c) (uI (hd4 T s q ci fm c) (q + 1) (upd ((hd4 T s q ci fm c).1 (q + 1)) ci (nI a.1))) := fun fm => offR.w chR_n
        have o5' : offR q ci fm (hd4 T s q ci fm c) (uI (hd4 T s q ci fm c) (q + 1) (upd ((hd4 T s q ci fm c).1 (q + 1)) ci (nI a.1))) := offR.w chR_n
        have hT5 := hT4.off hQ.1 o5'
        have hQ5 := hQ4.off o5'
        rw [h, bN_s]
        have z3 : (uI (hd4 T s q ci fm c) (q + 1) (upd ((hd4 T s q ci fm c).1 (q + 1)) ci (nI a.1))).1 (q + 3) ci = 0 := by
          rw [uI_ne _ _ _ _ (by omega), f4.2.2.2.2 (q + 3) (by omega) (by omega) (by omega) (by omega)]; exact hz3 hi'
        have k := x_k127 (d := d) (fm := fm) (p := p) (v := v) (ag := ag) hT5 hQ5 hi' ho ha z3
        show match (match pAbove T a.2 with
          | .inl e => .inl e
          | .inr c2 => (match pWhere T c2 with
            | .inl e => .inl e
            | .inr w => if (T w.2).1 = 123 then .inr (w.2 + 1, c + 1, a.1, if (T a.2).1 = 6 then a.2 + 1 else 0, c2 + 1, w.1) else .inl (F2 T w.2)) : (Nat × Nat) ⊕ (Nat × HD)) with
          | .inl e => _
          | .inr r => _
        cases hA : pAbove T a.2 with
        | inl e =>
          rw [hA] at k
          obtain ⟨he, s', o', v', ag', k, r⟩ := k
          exact ⟨he, s', o', v', ag', k, (o4.tr o5').tr r⟩
        | inr c2 =>
          rw [hA] at k
          replace k : match pWhere T c2 with
            | .inl e => _
            | .inr w => _ := k
          show match (match pWhere T c2 with
            | .inl e => .inl e
            | .inr w => if (T w.2).1 = 123 then .inr (w.2 + 1, c + 1, a.1, if (T a.2).1 = 6 then a.2 + 1 else 0, c2 + 1, w.1) else .inl (F2 T w.2) : (Nat × Nat) ⊕ (Nat × HD)) with
            | .inl e => _
            | .inr r => _
          cases hw : pWhere T c2 with
          | inl e =>
            rw [hw] at k
            obtain ⟨he, s', o', v', ag', k, r⟩ := k
            exact ⟨he, s', o', v', ag', k, (o4.tr o5').tr r⟩
          | inr w =>
            rw [hw] at k
            by_cases h123 : (T w.2).1 = 123
            · obtain ⟨k1, s', k2, k3, k4, k5, k6, k7⟩ := k.1 h123
              simp only [if_pos h123]
              have g : ∀ h, ¬ h = 66 → ¬ h = 67 → ¬ h = q + 3 → ¬ h = q + 1 → s'.1 h = (hd4 T s q ci fm c).1 h := fun h a b e g => (k7 h a b e).trans (uI_ne _ _ _ _ g)
              have gg : ∀ h, ¬ h = 66 → ¬ h = 67 → ¬ h = q + 3 → ¬ h = q + 1 → ¬ h = q → ¬ h = q + 9 → ¬ h = 65 → ¬ h = q + 2 → s'.1 h = s.1 h := fun h a b e i a1 a2 a3 a4 => (g h a b e i).trans (f4.2.2.2.2 h a1 a2 a3 a4)
              refine ⟨k1, s', k2, (o4.tr o5').tr k3, ⟨?_, ?_, ?_, ?_, ?_, k4, k5⟩, ?_, ?_, ?_, ?_, ?_, ?_, ?_, ?_⟩
              · rw [g (q + 9) (by omega) (by omega) (by omega) (by omega)]; exact f4.2.1
              · rw [g 65 (by omega) (by omega) (by omega) (by omega)]; exact f4.2.2.1
              · rw [g (q + 2) (by omega) (by omega) (by omega) (by omega)]; exact f4.2.2.2.1
              · rw [k7 (q + 1) (by omega) (by omega) (by omega), uI_same]; exact if_pos rfl
              · rw [k6]
                by_cases h6 : (T a.2).1 = 6
                · simp only [if_pos h6]
                  rw [if_neg (by omega), Nat.add_sub_cancel]
                · simp only [if_neg h6]
                  rfl
              · rw [g q (by omega) (by omega) (by omega) (by omega)]; exact f4.1
              · exact gg (q + 14) (by omega) (by omega) (by omega) (by omega) (by omega) (by omega) (by omega) (by omega)
              · exact gg (q + 6) (by omega) (by omega) (by omega) (by omega) (by omega) (by omega) (by omega) (by omega)
              · exact gg (q + 7) (by omega) (by omega) (by omega) (by omega) (by omega) (by omega) (by omega) (by omega)
              · exact gg (q + 10) (by omega) (by omega) (by omega) (by omega) (by omega) (by omega) (by omega) (by omega)
              · exact gg (q + 18) (by omega) (by omega) (by omega) (by omega) (by omega) (by omega) (by omega) (by omega)
              · exact gg (q + 20) (by omega) (by omega) (by omega) (by omega) (by omega) (by omega) (by omega) (by omega)
              · exact gg (q + 16) (by omega) (by omega) (by omega) (by omega) (by omega) (by omega) (by omega) (by omega)
            · obtain ⟨he, s', o', v', ag', k, r⟩ := k.2 h123
              simp only [if_neg h123]
              exact ⟨he, s', o', v', ag', k, (o4.tr o5').tr r⟩
    · rw [if_neg h91] at h ⊢
      obtain ⟨he, s', h, o'⟩ := h
      obtain ⟨s'', k, o''⟩ := n_k127 (d := d) (p := (T (F2 T (c + 2)).2).2.1) (o := nI o) (v := v) (ag := ag) (hT4.off hQ.1 (o' 0)) hQ.1 (F2_n0 T (c + 2)) hi'
      rw [h, bN_s, k]
      exact ⟨he, s'', _, _, _, rfl, (o4.tr (o' fm)).tr (o'' fm)⟩
  · obtain ⟨s'', k, o''⟩ := n_k127 (d := d) (p := (T (F2 T (c + 1)).2).2.1) (o := nI o) (v := v) (ag := ag) hT4 hQ.1 (F2_n0 T (c + 1)) hi'
    rw [if_neg h2, u_need2 hT4 (c := c + 1) (by omega) h2, bN_s, xV_64, n_names hT4 (F2_n0 T _), bN_s, k]
    exact ⟨F2_in T _, s'', _, _, _, rfl, o4.tr (o'' fm)⟩
end MJ56
