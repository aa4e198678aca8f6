/-! ===== the reference reads a KIND ===== -/
/-- what may change while the KIND number g is read -/
def chK (b g h j : Nat) : Prop := (h = 97 ∧ (j = 3 ∨ j = 4 ∨ j = 5 ∨ j = 6)) ∨ (h = 121 ∧ j = b) ∨ ((h = 137 ∨ h = 138) ∧ j = g) ∨ (h = 141 ∧ 5 * g ≤ j ∧ j < 5 * g + 5)
def chKL (g h j : Nat) : Prop := (h = 97 ∧ j = 7) ∨ (h = 136 ∧ j = g) ∨ (h = 140 ∧ 5 * g ≤ j ∧ j < 5 * g + 5)
def offK2 (b g : Nat) : mjSt3 → mjSt3 → Prop := offG (chK b g) (chKL g)
theorem offK2.E {b m : Nat} {s s' : mjSt3} (h : offK2 b (800 * b + m) s s') (hm : m < 800) : offE b s s' :=
  offG.mono h (fun x y q => by unfold chK at q; unfold chE; omega) (fun x y q => by unfold chKL at q; unfold chEL; omega)
theorem offN.K2 {b g : Nat} {s s' : mjSt3} (h : offN s s') : offK2 b g s s' := by
  refine ⟨fun x j n => ?_, fun x j n => ?_, h.2.2.2.2⟩
  · by_cases e : x = 97
    · subst e
      exact h.2.1 j (fun q => n (by unfold chK; omega)) (fun q => n (by unfold chK; omega)) (fun q => n (by unfold chK; omega)) (fun q => n (by unfold chK; omega))
    · rw [h.1 x e]
  · by_cases e : x = 97
    · subst e
      exact h.2.2.2.1 j (fun q => n (by unfold chKL; omega))
    · rw [h.2.2.1 x e]
/-- while KIND g, at token t, is read: j OWNERS are there, the cursor at c -/
def KP (tx : Nat → Int32) (n b g t j : Nat) (s z : mjSt3) (c : Nat) : Prop := MB tx n z ∧ MT tx n c z ∧ z.1 97 61 = 0 ∧ offK2 b g s z ∧ z.2.1 136 g = (mTT tx n t).2.2.1 ∧ z.1 137 g = (mTT tx n t).2.1 ∧ z.1 138 g = nI j ∧ (∀ i, i < j → z.2.1 140 (5 * g + i) = owR (mTT tx n) (t + 2 + 2 * i) ∧ z.1 141 (5 * g + i) = (mTT tx n (t + 2 + 2 * i)).2.1) ∧ z.1 121 b = s.1 121 b + 1
section MJ71
variable {tx : Nat → Int32} {n b d k o g t j c : Nat} {s z : mjSt3} {W : List WF} {os : List Row} {ks : List Nat}
theorem KP.at (h : KP tx n b g t j s z c) : AT (mTT tx n) c z := h.2.1.at h.1.2.2.2.1
theorem KP.next (h : KP tx n b g t j s z c) (hk : ¬ (mTT tx n c).1 = 1) : ∃ z', mjF (d + 3) 262 [.ref 97] (mjW0 z) = some (none, mjW0 z') ∧ KP tx n b g t j s z' (c + 1) := by
  obtain ⟨h1, h2, h3, h4, h5, h6, h7, h8, h9⟩ := h
  obtain ⟨z', e, m, r⟩ := x_mt (d := d) h1 h2 hk
  refine ⟨z', e, h1.off r, m, ?_, h4.tr r.K2, ?_, ?_, ?_, fun i hi => ?_, (by rw [r.1 121 (by decide)]; exact h9)⟩
  · rw [r.2.1 61 (by decide) (by decide) (by decide) (by decide), h3]
  · rw [r.2.2.1 136 (by decide), h5]
  · rw [r.1 137 (by decide), h6]
  · rw [r.1 138 (by decide), h7]
  · rw [r.2.2.1 140 (by decide), r.1 141 (by decide)]; exact h8 i hi
theorem MR.kind (h : MR tx n b s k o W os ks) (hm : ks.length < 800) (p : KP tx n b (800 * b + ks.length) t (cntO (mTT tx n) 6 (t + 2)) s z c) (h5 : cntO (mTT tx n) 6 (t + 2) ≤ 5) : MR tx n b z c o W os (ks ++ [t]) := by
  obtain ⟨⟨a1, a2⟩, ⟨b1, b2, b3, b4⟩, ⟨c1, c2⟩, ⟨d1, d2⟩, e1, e2⟩ := h
  obtain ⟨h1, h2, h3, r, p5, p6, p7, p8, hc⟩ := p
  rw [e1, nI_1] at hc
  have q : ∀ x y, ¬ chK b (800 * b + ks.length) x y → z.1 x y = s.1 x y := r.1
  have l : ∀ x y, ¬ chKL (800 * b + ks.length) x y → z.2.1 x y = s.2.1 x y := r.2.1
  refine ⟨⟨h1, h2⟩, ⟨b1, h3, ?_, ?_⟩, ⟨?_, fun i f hf => ?_⟩, ⟨?_, fun i x hx => ?_⟩, ?_, fun i u hu => ?_⟩
  · rw [q 97 63 (by unfold chK; omega), b3]
  · rw [q 97 64 (by unfold chK; omega), b4]
  · rw [q 97 76 (by unfold chK; omega), c1]
  · unfold Wt
    rw [q 151 i (by unfold chK; omega), q 152 i (by unfold chK; omega), q 153 i (by unfold chK; omega), q 154 i (by unfold chK; omega), q 182 i (by unfold chK; omega)]
    exact c2 i f hf
  · rw [q 122 b (by unfold chK; omega), d1]
  · unfold Rw
    rw [q 143 _ (by unfold chK; omega), q 144 _ (by unfold chK; omega), q 145 _ (by unfold chK; omega), q 146 _ (by unfold chK; omega), l 147 _ (by unfold chKL; omega)]
    exact d2 i x hx
  · rw [hc, List.length_append]; rfl
  · by_cases hl : i < ks.length
    · rw [List.getElem?_append_left hl] at hu
      obtain ⟨k0, k1, k2, k3, k4⟩ := e2 i u hu
      refine ⟨k0, ?_, ?_, ?_, fun x hx => ?_⟩
      · rw [l 136 _ (by unfold chKL; omega), k1]
      · rw [q 137 _ (by unfold chK; omega), k2]
      · rw [q 138 _ (by unfold chK; omega), k3]
      · have c1 : ¬ chKL (800 * b + ks.length) 140 (5 * (800 * b + i) + x) := by unfold chKL; omega
        have c2 : ¬ chK b (800 * b + ks.length) 141 (5 * (800 * b + i) + x) := by unfold chK; omega
        rw [l 140 _ c1, q 141 _ c2]
        exact k4 x hx
    · have hu' := (List.getElem?_eq_some_iff.mp hu).1
      rw [List.length_append, List.length_singleton] at hu'
      have e : i = ks.length := by omega
      subst e
      rw [List.getElem?_append_right (Nat.le_refl _), Nat.sub_self] at hu
      have e2' : t = u := by simpa using hu
      subst e2'
      exact ⟨h5, p5, p6, p7, p8⟩
/-- one OWNER more -/
theorem KP.own (h : KP tx n b g t j s z c) (hj : j < 5) (hg : g < 1600) (hc : c = t + 2 + 2 * j) : KP tx n b g t (j + 1) s (uI (uI (uL z 140 (vp_updL (z.2.1 140) (5 * g + j) (owR (mTT tx n) c))) 141 (upd (z.1 141) (5 * g + j) (mTT tx n c).2.1)) 138 (upd (z.1 138) g (nI (j + 1)))) c := by
  obtain ⟨h1, h2, h3, h4, h5, h6, h7, h8, h9⟩ := h
  have o1 : offK2 b g z (uL z 140 (vp_updL (z.2.1 140) (5 * g + j) (owR (mTT tx n) c))) := offG.wl (by unfold chKL; omega)
  have o2 : offK2 b g (uL z 140 (vp_updL (z.2.1 140) (5 * g + j) (owR (mTT tx n) c))) (uI (uL z 140 (vp_updL (z.2.1 140) (5 * g + j) (owR (mTT tx n) c))) 141 (upd (z.1 141) (5 * g + j) (mTT tx n c).2.1)) := offG.w (by unfold chK; omega)
  have o3 : offK2 b g (uI (uL z 140 (vp_updL (z.2.1 140) (5 * g + j) (owR (mTT tx n) c))) 141 (upd (z.1 141) (5 * g + j) (mTT tx n c).2.1)) (uI (uI (uL z 140 (vp_updL (z.2.1 140) (5 * g + j) (owR (mTT tx n) c))) 141 (upd (z.1 141) (5 * g + j) (mTT tx n c).2.1)) 138 (upd ((uI (uL z 140 (vp_updL (z.2.1 140) (5 * g + j) (owR (mTT tx n) c))) 141 (upd (z.1 141) (5 * g + j) (mTT tx n c).2.1)).1 138) g (nI (j + 1)))) := offG.w (by unfold chK; omega)
  rw [uI_ne _ _ _ _ (show ¬ 138 = 141 by decide), uL_i] at o3
  refine ⟨?_, ?_, ?_, (h4.tr (o1.tr o2)).tr o3, ?_, ?_, ?_, fun i hi => ?_, (by rw [uI_ne _ _ _ _ (by decide), uI_ne _ _ _ _ (by decide), uL_i]; exact h9)⟩
  · unfold MB at h1 ⊢
    rw [uI_ne _ _ _ _ (by decide), uI_ne _ _ _ _ (by decide), uI_ne _ _ _ _ (by decide), uI_ne _ _ _ _ (by decide), uL_i, uI_l, uI_l, uL_ne _ _ _ _ (by decide)]; exact h1
  · unfold MT at h2 ⊢
    rw [uI_ne _ _ _ _ (by decide), uI_ne _ _ _ _ (by decide), uL_i, uI_l, uI_l, uL_ne _ _ _ _ (by decide)]; exact h2
  · rw [uI_ne _ _ _ _ (by decide), uI_ne _ _ _ _ (by decide), uL_i, h3]
  · rw [uI_l, uI_l, uL_ne _ _ _ _ (by decide), h5]
  · rw [uI_ne _ _ _ _ (by decide), uI_ne _ _ _ _ (by decide), uL_i, h6]
  · rw [uI_same, up_same]
  · rw [uI_l, uI_l, uL_same, uI_ne _ _ _ _ (by decide), uI_same, updL_g, upd_g]
    by_cases e : i = j
    · subst e
      rw [if_pos rfl, if_pos rfl, hc]
      exact ⟨rfl, rfl⟩
    · rw [if_neg (by omega), if_neg (by omega)]
      exact h8 i (by omega)
end MJ71
