/-! ===== findNearest, learn: the class ===== -/
/-- an OBJECT that was come to, or none -/
def vQ (Q : WQ) (x : Nat) : Prop := x = 0 ∨ inW Q x
def NRc (H : HEAP) (Q : WQ) (s : mjSt3) : Prop := s.1 91 3 = nI Q.length ∧ (∀ (k : Nat) (e : Nat × Nat × Nat × Nat), Q[k]? = some e → s.1 92 k = nI e.1) ∧ s.1 94 0 = nI 0 ∧ (∀ x, inW Q x → ∃ a, vQ Q a ∧ s.1 94 x = nI a) ∧ ∀ o, 1 ≤ o → o ≤ H.1 → ¬ inW Q o → s.1 94 o = -1
section MJB97
variable {T : TT} {d b q o k i n m x y : Nat} {L : List CD} {H : HEAP} {Q : WQ} {s s' : mjSt3} {e : Nat × Nat × Nat × Nat}
theorem vQ.le (hQ : WOK H Q) (h : vQ Q x) : x ≤ H.1 := by
  rcases h with h | ⟨y, y1, y2⟩
  · omega
  · have := hQ.2.1 y y1
    omega
theorem NRc.at (N9 : NRc H Q s) (h : vQ Q x) : ∃ a, vQ Q a ∧ s.1 94 x = nI a := by
  rcases h with h | h
  · exact ⟨0, Or.inl rfl, by rw [h]; exact N9.2.2.1⟩
  · exact N9.2.2.2.1 x h
theorem NRc.set (N9 : NRc H Q s) (hx : inW Q x) (hx0 : 1 ≤ x) (hy : vQ Q y) : NRc H Q (uI s 94 (upd (s.1 94) x (nI y))) := by
  obtain ⟨n1, n2, n3, n4, n5⟩ := N9
  have r : ∀ h, ¬ h = 94 → (uI s 94 (upd (s.1 94) x (nI y))).1 h = s.1 h := fun h e => uI_ne _ _ _ _ e
  have v : ∀ j, (uI s 94 (upd (s.1 94) x (nI y))).1 94 j = if j = x then nI y else s.1 94 j := fun j => by rw [uI_same, upd_g]
  refine ⟨by rw [r 91 (by decide)]; exact n1, fun k e he => by rw [r 92 (by decide)]; exact n2 k e he, by rw [v, if_neg (by omega)]; exact n3, fun z hz => ?_, fun o o1 o2 hn => ?_⟩
  · rw [v]
    by_cases g : z = x
    · rw [if_pos g]; exact ⟨y, hy, rfl⟩
    · rw [if_neg g]; exact n4 z hz
  · rw [v, if_neg (fun g => hn (by rw [g]; exact hx))]
    exact n5 o o1 o2 hn
theorem oWc.w {h : Nat} {g : Nat → Int32} (hh : 91 ≤ h ∧ h ≤ 96) : oWc s (uI s h g) := offG_of (fun h' j e => by rw [uI_ne _ _ _ _ (fun q => e (by rw [q]; exact hh))]) rfl
theorem L196_S (R : mjR) (n a : Nat) (x y u : Int32) (hp : mjH) : L_196_8 R (n + 1) a x y u hp = b_196_8 R (L_196_8 R n) a x y u hp := rfl
theorem lq_196 (R : mjR) (hb : H.1 ≤ 1334) (h79 : s.1 79 2 = nI H.1) (hQ : WOK H Q) (N9 : NRc H Q s) : ∀ (r k m x y : Nat), k + r = 2 * H.1 + 1 → r < m → vQ Q x → vQ Q y → ∃ z, vQ Q z ∧ L_196_8 R m 91 (nI x) (nI y) (nI k) (mjW0 s) = some (some (.int (nI z)), mjW0 s)
  | r, k, 0, x, y, e, hm, hx, hy => by omega
  | r, k, m + 1, x, y, e, hm, hx, hy => by
    have xl := hx.le hQ
    have yl := hy.le hQ
    rw [L196_S]
    unfold b_196_8 b_196_69 b_196_63
    rw [xg_91_0, xg_79_2, h79, show (2 : Int32) * nI H.1 = nI (2 * H.1) by rw [show (2 : Int32) = nI 2 from rfl, nI_mul]]
    by_cases g1 : 2 * H.1 < k
    · rw [if_pos (nI_lt g1 (by omega))]
      exact ⟨x, hx, rfl⟩
    · rw [if_neg (nI_nlt (by omega) (by omega))]
      by_cases g2 : x = y
      · rw [if_pos (by rw [g2])]
        exact ⟨x, hx, rfl⟩
      · cases r with
        | zero => omega
        | succ r =>
          obtain ⟨ax, ax1, ax2⟩ := N9.at hx
          obtain ⟨ay, ay1, ay2⟩ := N9.at hy
          rw [if_neg (fun z => g2 ((nI_eq (by omega) (by omega)).mp z)), xg_91_7, wa_95 (by omega), xg_91_7, wa_95 (by omega), xg_91_6, wa_94 (by omega), ay2, xg_91_6, wa_94 (by omega), ax2, nI_1]
          by_cases g3 : s.1 95 x ≤ s.1 95 y
          · rw [if_pos g3]
            exact lq_196 R hb h79 hQ N9 r (k + 1) m x ay (by omega) (by omega) hx ay1
          · rw [if_neg g3]
            exact lq_196 R hb h79 hQ N9 r (k + 1) m ax y (by omega) (by omega) ax1 hy
theorem x_196 (hb : H.1 ≤ 1334) (h79 : s.1 79 2 = nI H.1) (hQ : WOK H Q) (N9 : NRc H Q s) (hx : vQ Q x) (hy : vQ Q y) : ∃ z, vQ Q z ∧ mjF (d + 1) 196 [.ref 91, .int (nI x), .int (nI y)] (mjW0 s) = some (some (.int (nI z)), mjW0 s) := by
  obtain ⟨z, z1, z2⟩ := lq_196 (mjF d) hb h79 hQ N9 (2 * H.1 + 1) 0 mjN x y (by omega) (by unfold mjN; omega) hx hy
  refine ⟨z, z1, ?_⟩
  rw [e_196]
  unfold f_196 b_196_0
  exact z2
theorem L195_S (R : mjR) (n a : Nat) (x y u v : Int32) (hp : mjH) : L_195_11 R (n + 1) a x y u v hp = b_195_11 R (L_195_11 R n) a x y u v hp := rfl
theorem lq_195 (P : HWp T L b H) (hQ : WOK H Q) (hcl : ∀ e, e ∈ Q → ∀ i, i < fldT T L (H.2 e.1).1 → hopN T L H e.1 i = 0 ∨ inW Q (hopN T L H e.1 i)) (he : e ∈ Q) : ∀ (r i m : Nat) (v : Bool) (s : mjSt3), i + r = fldT T L (H.2 e.1).1 → r < m → HWc T L q H s → NRc H Q s → ∃ (w : Bool) (s' : mjSt3), L_195_11 (mjF (d + 2)) m 91 (nI e.1) (b2 v) (nI (fldT T L (H.2 e.1).1)) (nI i) (mjW0 s) = some (some (.int (b2 w)), mjW0 s') ∧ oWc s s' ∧ (∀ h, ¬ h = 94 → s'.1 h = s.1 h) ∧ NRc H Q s'
  | r, i, 0, v, s, ei, hr, hW, N9 => by omega
  | 0, i, m + 1, v, s, ei, hr, hW, N9 => by
    have f3 := P.2.2.2.2.2 (H.2 e.1).1
    refine ⟨v, s, ?_, offG.rf, fun _ _ => rfl, N9⟩
    rw [L195_S]
    unfold b_195_11
    rw [if_pos (nI_le (by omega) (by omega)), if_pos (b2_nar v)]
  | r + 1, i, m + 1, v, s, ei, hr, hW, N9 => by
    have b1 := P.2.1.1
    have b2' := P.2.1.2
    have f3 := P.2.2.2.2.2 (H.2 e.1).1
    obtain ⟨e1, e2⟩ := hQ.2.1 e he
    have il : i < fldT T L (H.2 e.1).1 := by omega
    have hh1 := (hop_ok (T := T) (L := L) (H := H) (o := e.1) (i := i) P.1 (by omega) e1 e2).1
    rw [L195_S]
    unfold b_195_11 b_195_47 b_195_77
    rw [if_neg (nI_ge (by omega) (by omega)), xV_91, x_190 (d := d) P hW e1 e2 il, bI_s]
    by_cases c0 : hopN T L H e.1 i = 0
    · rw [c0, if_pos (show nI 0 = 0 from rfl), if_pos (show nI 0 = 0 from rfl), nI_1]
      exact lq_195 P hQ hcl he r (i + 1) m v s (by omega) (by omega) hW N9
    · have hin := (hcl e he i il).resolve_left c0
      obtain ⟨a, a1, a2⟩ := N9.2.2.2.1 _ hin
      obtain ⟨z, z1, z2⟩ := x_196 (d := d + 1) (by omega) hW.2.1 hQ N9 a1 (show vQ Q e.1 from Or.inr ⟨e, he, rfl⟩)
      have al := a1.le hQ
      have zl := z1.le hQ
      rw [if_neg (nI_ne0 (by omega) (by omega)), xg_91_6, wa_94 (by omega), a2, xV_91, z2, bI_s, if_neg (nI_ne0 (by omega) (by omega)), xg_91_6, wa_94 (by omega), a2, nI_1]
      by_cases g : z = a
      · rw [if_pos (by rw [g])]
        exact lq_195 P hQ hcl he r (i + 1) m v s (by omega) (by omega) hW N9
      · rw [if_neg (fun w => g ((nI_eq (by omega) (by omega)).mp w)), xg_91_6, ws_94 (by omega)]
        have o1 : oWc s (uI s 94 (upd (s.1 94) (hopN T L H e.1 i) (nI z))) := oWc.w (by omega)
        obtain ⟨w, s', c1, c2, c3, c4⟩ := lq_195 P hQ hcl he r (i + 1) m true (uI s 94 (upd (s.1 94) (hopN T L H e.1 i) (nI z))) (by omega) (by omega) (hW.ws o1) (N9.set hin (by omega) z1)
        exact ⟨w, s', c1, offG.tr o1 c2, fun h hh => by rw [c3 h hh, uI_ne _ _ _ _ hh], c4⟩
/-- narrowFrom -/
theorem x_195 (P : HWp T L b H) (hQ : WOK H Q) (hcl : ∀ e, e ∈ Q → ∀ i, i < fldT T L (H.2 e.1).1 → hopN T L H e.1 i = 0 ∨ inW Q (hopN T L H e.1 i)) (he : e ∈ Q) (hW : HWc T L q H s) (N9 : NRc H Q s) : ∃ (w : Bool) (s' : mjSt3), mjF (d + 3) 195 [.ref 91, .int (nI e.1)] (mjW0 s) = some (some (.int (b2 w)), mjW0 s') ∧ oWc s s' ∧ (∀ h, ¬ h = 94 → s'.1 h = s.1 h) ∧ NRc H Q s' := by
  obtain ⟨e1, e2⟩ := hQ.2.1 e he
  have f3 := P.2.2.2.2.2 (H.2 e.1).1
  obtain ⟨w, s', c1, c2⟩ := lq_195 (d := d) P hQ hcl he (fldT T L (H.2 e.1).1) 0 mjN false s (by omega) (by unfold mjN; omega) hW N9
  refine ⟨w, s', ?_, c2⟩
  rw [e_195]
  unfold f_195 b_195_0
  rw [xV_91, x_189 (d := d) P hW e1 e2, bI_s]
  exact c1
theorem L194q_S (R : mjR) (k70 : Nat → Int32 → Int32 → mjH → mjU) (n a : Nat) (x y u : Int32) (hp : mjH) : L_194_84 R k70 (n + 1) a x y u hp = b_194_84 R k70 (L_194_84 R k70 n) a x y u hp := rfl
theorem L194r_S (R : mjR) (n a : Nat) (x y : Int32) (hp : mjH) : L_194_70 R (n + 1) a x y hp = b_194_70 R (L_194_70 R n) a x y hp := rfl
theorem L194k_S (R : mjR) (n a : Nat) (x : Int32) (hp : mjH) : L_194_38 R (n + 1) a x hp = b_194_38 R (L_194_38 R n) a x hp := rfl
/-- one round -/
theorem lq_194q (k70 : Nat → Int32 → Int32 → mjH → mjU) (P : HWp T L b H) (hQ : WOK H Q) (hcl : ∀ e, e ∈ Q → ∀ i, i < fldT T L (H.2 e.1).1 → hopN T L H e.1 i = 0 ∨ inW Q (hopN T L H e.1 i)) : ∀ (r i m : Nat) (l1 : Int32) (s : mjSt3), i + r = Q.length → r < m → HWc T L q H s → NRc H Q s → ∃ (l2 : Int32) (s' : mjSt3), L_194_84 (mjF (d + 3)) k70 m 91 l1 (nI k) (nI i) (mjW0 s) = k70 91 l2 (nI (k + 1)) (mjW0 s') ∧ oWc s s' ∧ (∀ h, ¬ h = 94 → s'.1 h = s.1 h) ∧ NRc H Q s'
  | r, i, 0, l1, s, ei, hr, hW, N9 => by omega
  | 0, i, m + 1, l1, s, ei, hr, hW, N9 => by
    have b1 := P.2.1.1
    have b2' := P.2.1.2
    have ln := hQ.len
    refine ⟨l1, s, ?_, offG.rf, fun _ _ => rfl, N9⟩
    rw [L194q_S]
    unfold b_194_84
    rw [xg_91_3, N9.1, if_pos (nI_le (by omega) (by omega)), nI_1]
  | r + 1, i, m + 1, l1, s, ei, hr, hW, N9 => by
    have b1 := P.2.1.1
    have b2' := P.2.1.2
    have ln := hQ.len
    obtain ⟨e, he⟩ : ∃ e, Q[i]? = some e := ⟨_, List.getElem?_eq_getElem (by omega)⟩
    obtain ⟨w, s1, a1, a2, a3, a4⟩ := x_195 (d := d) P hQ hcl (List.mem_of_getElem? he) hW N9
    have fin : ∀ l2, ∃ (l3 : Int32) (s' : mjSt3), L_194_84 (mjF (d + 3)) k70 m 91 l2 (nI k) (nI (i + 1)) (mjW0 s1) = k70 91 l3 (nI (k + 1)) (mjW0 s') ∧ oWc s s' ∧ (∀ h, ¬ h = 94 → s'.1 h = s.1 h) ∧ NRc H Q s' := by
      intro l2
      obtain ⟨l3, s2, c1, c2, c3, c4⟩ := lq_194q k70 P hQ hcl r (i + 1) m l2 s1 (by omega) (by omega) (hW.ws a2) a4
      exact ⟨l3, s2, c1, offG.tr a2 c2, fun h hh => by rw [c3 h hh, a3 h hh], c4⟩
    rw [L194q_S]
    unfold b_194_84 b_194_114 b_194_109 b_194_114
    rw [xg_91_3, N9.1, if_neg (nI_ge (by omega) (by omega)), xg_91_2, wa_92 (by omega), N9.2.1 i e he, xV_91, a1, bI_s, nI_1]
    by_cases g1 : b2 w = 0
    · rw [if_pos g1]
      by_cases g2 : l1 = 0
      · rw [if_pos g2]; exact fin 0
      · rw [if_neg g2]; exact fin 1
    · rw [if_neg g1]; exact fin 1
theorem lq_194r (P : HWp T L b H) (hQ : WOK H Q) (hcl : ∀ e, e ∈ Q → ∀ i, i < fldT T L (H.2 e.1).1 → hopN T L H e.1 i = 0 ∨ inW Q (hopN T L H e.1 i)) : ∀ (r k m : Nat) (l1 : Int32) (s : mjSt3), k + r = 1000000 → r < m → HWc T L q H s → NRc H Q s → ∃ s', L_194_70 (mjF (d + 3)) m 91 l1 (nI k) (mjW0 s) = some (none, mjW0 s') ∧ oWc s s' ∧ (∀ h, ¬ h = 94 → s'.1 h = s.1 h) ∧ NRc H Q s'
  | r, k, 0, l1, s, ek, hr, hW, N9 => by omega
  | 0, k, m + 1, l1, s, ek, hr, hW, N9 => by
    have e : k = 1000000 := by omega
    refine ⟨s, ?_, offG.rf, fun _ _ => rfl, N9⟩
    rw [L194r_S]
    unfold b_194_70
    rw [if_pos (show (1000000 : Int32) ≤ nI k from nI_le (a := 1000000) (by omega) (by omega))]
  | r + 1, k, m + 1, l1, s, ek, hr, hW, N9 => by
    have b1 := P.2.1.1
    have b2' := P.2.1.2
    have ln := hQ.len
    rw [L194r_S]
    unfold b_194_70
    rw [if_neg (show ¬ (1000000 : Int32) ≤ nI k from nI_ge (b := 1000000) (by omega) (by decide))]
    by_cases g : l1 = 0
    · rw [if_pos g]
      exact ⟨s, rfl, offG.rf, fun _ _ => rfl, N9⟩
    · rw [if_neg g]
      obtain ⟨l2, s1, a1, a2, a3, a4⟩ := lq_194q (d := d) (k := k) (L_194_70 (mjF (d + 3)) m) P hQ hcl Q.length 0 mjN 0 s (by omega) (by unfold mjN; omega) hW N9
      obtain ⟨s2, c1, c2, c3, c4⟩ := lq_194r P hQ hcl r (k + 1) m l2 s1 (by omega) (by omega) (hW.ws a2) a4
      exact ⟨s2, a1.trans c1, offG.tr a2 c2, fun h hh => by rw [c3 h hh, a3 h hh], c4⟩
/-- ranks -/
theorem lq_194k (P : HWp T L b H) (hQ : WOK H Q) (hcl : ∀ e, e ∈ Q → ∀ i, i < fldT T L (H.2 e.1).1 → hopN T L H e.1 i = 0 ∨ inW Q (hopN T L H e.1 i)) : ∀ (r i m : Nat) (s : mjSt3), i + r = Q.length → r < m → HWc T L q H s → NRc H Q s → ∃ s', L_194_38 (mjF (d + 3)) m 91 (nI i) (mjW0 s) = some (none, mjW0 s') ∧ oWc s s' ∧ (∀ h, ¬ (h = 94 ∨ h = 95) → s'.1 h = s.1 h) ∧ NRc H Q s'
  | r, i, 0, s, ei, hr, hW, N9 => by omega
  | 0, i, m + 1, s, ei, hr, hW, N9 => by
    have b1 := P.2.1.1
    have b2' := P.2.1.2
    have ln := hQ.len
    obtain ⟨s', a1, a2, a3, a4⟩ := lq_194r (d := d) P hQ hcl 1000000 0 mjN 1 s (by omega) (by unfold mjN; omega) hW N9
    refine ⟨s', ?_, a2, fun h hh => a3 h (by omega), a4⟩
    rw [L194k_S]
    unfold b_194_38
    rw [xg_91_3, N9.1, if_pos (nI_le (by omega) (by omega))]
    exact a1
  | r + 1, i, m + 1, s, ei, hr, hW, N9 => by
    have b1 := P.2.1.1
    have b2' := P.2.1.2
    have ln := hQ.len
    obtain ⟨e, he⟩ : ∃ e, Q[i]? = some e := ⟨_, List.getElem?_eq_getElem (by omega)⟩
    obtain ⟨e1, e2⟩ := hQ.2.1 e (List.mem_of_getElem? he)
    obtain ⟨z1, g1⟩ : ∃ y, y = uI s 95 (upd (s.1 95) e.1 (nI (i + 1))) := ⟨_, rfl⟩
    have o1 : oWc s z1 := by rw [g1]; exact oWc.w (by omega)
    have r1 : ∀ h, ¬ h = 95 → z1.1 h = s.1 h := fun h e => by rw [g1, uI_ne _ _ _ _ e]
    obtain ⟨s', a1, a2, a3, a4⟩ := lq_194k P hQ hcl r (i + 1) m z1 (by omega) (by omega) (hW.ws o1) (by
      unfold NRc at N9 ⊢
      rw [r1 91 (by decide), r1 92 (by decide), r1 94 (by decide)]
      exact N9)
    refine ⟨s', ?_, offG.tr o1 a2, fun h hh => by rw [a3 h hh, r1 h (by omega)], a4⟩
    rw [L194k_S]
    unfold b_194_38
    rw [xg_91_3, N9.1, if_neg (nI_ge (by omega) (by omega)), xg_91_7, xg_91_2, wa_92 (by omega), N9.2.1 i e he, nI_1, ws_95 (by omega), ← g1]
    exact a1
/-- findNearest -/
theorem x_194 (P : HWp T L b H) (hW : HWc T L q H s) (W : WCr H (walkR T L H 0) s) (hQ : WOK H (walkR T L H 0)) : ∃ s', mjF (d + 4) 194 [.ref 91] (mjW0 s) = some (none, mjW0 s') ∧ oWc s s' ∧ (∀ h, ¬ (h = 94 ∨ h = 95) → s'.1 h = s.1 h) ∧ NRc H (walkR T L H 0) s' := by
  have b1 := P.2.1.1
  have b2' := P.2.1.2
  have ln := hQ.len
  obtain ⟨z1, g1⟩ : ∃ y, y = uI s 94 (va_cpy (s.1 93) (s.1 94) 0 0 (H.1 + 1)) := ⟨_, rfl⟩
  obtain ⟨z2, g2⟩ : ∃ y, y = uI z1 94 (upd (z1.1 94) 0 (nI 0)) := ⟨_, rfl⟩
  obtain ⟨z3, g3⟩ : ∃ y, y = uI z2 95 (upd (z2.1 95) 0 (nI 0)) := ⟨_, rfl⟩
  have o3 : oWc s z3 := offG.tr (b := z1) (by rw [g1]; exact oWc.w (by omega)) (offG.tr (b := z2) (by rw [g2]; exact oWc.w (by omega)) (by rw [g3]; exact oWc.w (by omega)))
  have r3 : ∀ h, ¬ (h = 94 ∨ h = 95) → z3.1 h = s.1 h := fun h e => by rw [g3, uI_ne _ _ _ _ (by omega), g2, uI_ne _ _ _ _ (by omega), g1, uI_ne _ _ _ _ (by omega)]
  have v3 : ∀ j, j ≤ H.1 → z3.1 94 j = if j = 0 then nI 0 else s.1 93 j := fun j hj => by
    rw [g3, uI_ne _ _ _ _ (by decide), g2, uI_same, upd_g]
    by_cases e : j = 0
    · rw [if_pos e, if_pos e]
    · rw [if_neg e, if_neg e, g1, uI_same]
      show (if 0 ≤ j ∧ j < 0 + (H.1 + 1) then s.1 93 (0 + (j - 0)) else s.1 94 j) = s.1 93 j
      rw [if_pos ⟨Nat.zero_le _, by omega⟩, show 0 + (j - 0) = j by omega]
  have N3 : NRc H (walkR T L H 0) z3 := by
    refine ⟨by rw [r3 91 (by omega)]; exact W.1, fun k e he => by rw [r3 92 (by omega)]; exact W.2.1 k e he, by rw [v3 0 (Nat.zero_le _), if_pos rfl], fun x ⟨y, y1, y2⟩ => ?_, fun o o1 o2 hn => by rw [v3 o o2, if_neg (by omega)]; exact W.2.2.2 o o2 hn⟩
    obtain ⟨yr1, yr2⟩ := hQ.2.1 y y1
    refine ⟨y.2.1, ?_, by rw [v3 x (by omega), if_neg (by omega), ← y2]; exact W.2.2.1 y y1⟩
    obtain ⟨k, hk⟩ := List.getElem?_of_mem y1
    rcases hQ.2.2 k y hk with h | ⟨_, _, p, p1, p2, _⟩
    · exact Or.inl h.1
    · exact Or.inr ⟨p, List.mem_of_getElem? p1, p2⟩
  have hcl : ∀ e, e ∈ walkR T L H 0 → ∀ i, i < fldT T L (H.2 e.1).1 → hopN T L H e.1 i = 0 ∨ inW (walkR T L H 0) (hopN T L H e.1 i) := fun e he i hi => by
    rcases walkR_cl P (Nat.zero_le _) he hi with h | h | h
    · exact Or.inl h
    · exact Or.inl h
    · exact Or.inr h
  obtain ⟨s', a1, a2, a3, a4⟩ := lq_194k (d := d) P hQ hcl (walkR T L H 0).length 0 mjN z3 (by omega) (by unfold mjN; omega) (hW.ws o3) N3
  refine ⟨s', ?_, offG.tr o3 a2, fun h hh => by rw [a3 h hh, r3 h hh], a4⟩
  rw [e_194]
  unfold f_194 b_194_0
  rw [xg_91_4, xg_91_6, xg_91_0, xg_79_2, hW.2.1, nI_1, cp_94 (by omega), ← g1, xg_91_6, show sI (mjW0 z1) 94 (0 : Int32) 0 = sI (mjW0 z1) 94 (nI 0) (nI 0) from rfl, ws_94 (show 0 < 1335 by decide), ← g2, xg_91_7, show sI (mjW0 z2) 95 (0 : Int32) 0 = sI (mjW0 z2) 95 (nI 0) (nI 0) from rfl, ws_95 (show 0 < 1335 by decide), ← g3]
  exact a1
theorem NRc.kn (N9 : NRc H Q s) (hQ : WOK H Q) : ∀ o, o ≤ H.1 → s.1 94 o = -1 ∨ ∃ a, a ≤ H.1 ∧ s.1 94 o = nI a := by
  intro o o2
  by_cases h0 : o = 0
  · rw [h0]; exact Or.inr ⟨0, Nat.zero_le _, N9.2.2.1⟩
  · by_cases g : inW Q o
    · obtain ⟨a, a1, a2⟩ := N9.2.2.2.1 o g
      exact Or.inr ⟨a, a1.le hQ, a2⟩
    · exact Or.inl (N9.2.2.2.2 o (by omega) o2 g)
theorem L193_S (R : mjR) (n a : Nat) (x : Int32) (hp : mjH) : L_193_30 R (n + 1) a x hp = b_193_30 R (L_193_30 R n) a x hp := rfl
/-- the LEAKS -/
theorem lq_193 (P : HWp T L b H) : ∀ (r o m t : Nat) (s : mjSt3), o + r = H.1 + 1 → 1 ≤ o → r < m → t < o → HWc T L q H s → s.1 91 5 = 1 → s.1 91 9 = nI t → (∀ o, o ≤ H.1 → s.1 94 o = -1 ∨ ∃ a, a ≤ H.1 ∧ s.1 94 o = nI a) → ∃ s', L_193_30 (mjF (d + 2)) m 91 (nI o) (mjW0 s) = some (none, mjW0 s') ∧ oWc s s' ∧ s'.1 91 5 = 1 ∧ (∃ t', t' ≤ H.1 ∧ s'.1 91 9 = nI t') ∧ s'.1 94 = s.1 94
  | r, o, 0, t, s, eo, o1, hm, ht, hW, h5, h9, N9 => by omega
  | 0, o, m + 1, t, s, eo, o1, hm, ht, hW, h5, h9, N9 => by
    have b1 := P.2.1.1
    have b2' := P.2.1.2
    refine ⟨s, ?_, offG.rf, h5, ⟨t, by omega, h9⟩, rfl⟩
    rw [L193_S]
    unfold b_193_30
    rw [xg_91_0, xg_79_2, hW.2.1, if_pos (nI_lt (by omega) (by omega))]
  | r + 1, o, m + 1, t, s, eo, o1, hm, ht, hW, h5, h9, N9 => by
    have b1 := P.2.1.1
    have b2' := P.2.1.2
    obtain ⟨v, x197⟩ := x_197 (d := d) P hW N9 o1 (by omega)
    rw [L193_S]
    unfold b_193_30 b_193_69
    rw [xg_91_0, xg_79_2, hW.2.1, if_neg (nI_nlt (by omega) (by omega)), xV_91, x197, bI_s, nI_1]
    cases v with
    | false =>
      rw [if_pos (show b2 false = 0 from rfl)]
      exact lq_193 P r (o + 1) m t s (by omega) (by omega) (by omega) (by omega) hW h5 h9 N9
    | true =>
      obtain ⟨z1, g1⟩ : ∃ y, y = uI s 96 (upd (s.1 96) t (nI o)) := ⟨_, rfl⟩
      obtain ⟨z2, g2⟩ : ∃ y, y = uI z1 91 (upd (z1.1 91) 9 (nI (t + 1))) := ⟨_, rfl⟩
      have c1 : z1.1 91 9 = nI t := by rw [g1, uI_ne _ _ _ _ (by decide)]; exact h9
      have o2' : oWc s z2 := offG.tr (b := z1) (by rw [g1]; exact oWc.w (by omega)) (by rw [g2]; exact oWc.w (by omega))
      have e94 : z2.1 94 = s.1 94 := by rw [g2, uI_ne _ _ _ _ (by decide), g1, uI_ne _ _ _ _ (by decide)]
      obtain ⟨s', a1, a2, a3, a4, a5⟩ := lq_193 P r (o + 1) m (t + 1) z2 (by omega) (by omega) (by omega) (by omega) (hW.ws o2') (by rw [g2, uI_same, upd_g, if_neg (by decide), g1, uI_ne _ _ _ _ (by decide)]; exact h5) (by rw [g2, uI_same, upd_g, if_pos rfl]) (by rw [e94]; exact N9)
      refine ⟨s', ?_, offG.tr o2' a2, a3, a4, by rw [a5, e94]⟩
      rw [if_neg (show ¬ b2 true = 0 by decide), xg_91_8, xg_91_9, h9, ws_96 (by omega), ← g1, xg_91_9, c1, nI_1, xp_91_9, ← g2]
      exact a1
/-- learn -/
theorem x_193 (P : HWp T L b H) (hW : HWc T L q H s) (K : KNc H.1 s) : ∃ s', mjF (d + 5) 193 [.ref 91] (mjW0 s) = some (none, mjW0 s') ∧ oWc s s' ∧ s'.1 91 5 = 1 ∧ (∃ t, t ≤ H.1 ∧ s'.1 91 9 = nI t) ∧ ∀ o, o ≤ H.1 → s'.1 94 o = -1 ∨ ∃ a, a ≤ H.1 ∧ s'.1 94 o = nI a := by
  have b1 := P.2.1.1
  have b2' := P.2.1.2
  rcases K with h0 | ⟨h1, h2, h3⟩
  · obtain ⟨z1, g1⟩ : ∃ y, y = uI s 91 (upd (s.1 91) 5 1) := ⟨_, rfl⟩
    have o1 : oWc s z1 := by rw [g1]; exact oWc.w (by omega)
    obtain ⟨s2, a1, a2, a3, a4⟩ := x_186R (d := d) (sh := 0) P (Nat.zero_le _) (hW.ws o1)
    have a1' : mjF (d + 4) 186 [.ref 91, .int 0, .int 0] (mjW0 z1) = some (none, mjW0 s2) := a1
    have hW2 := (hW.ws o1).ws a2.toC
    obtain ⟨s3, c1, c2, c3, c4⟩ := x_194 (d := d) P hW2 a3 a4
    obtain ⟨z4, g4⟩ : ∃ y, y = uI s3 91 (upd (s3.1 91) 9 0) := ⟨_, rfl⟩
    have o4 : oWc s3 z4 := by rw [g4]; exact oWc.w (by omega)
    have e94 : z4.1 94 = s3.1 94 := by rw [g4, uI_ne _ _ _ _ (by decide)]
    have h5 : z4.1 91 5 = 1 := by
      rw [g4, uI_same, upd_g, if_neg (by decide), c3 91 (by omega), a2.1 91 5 (by omega), g1, uI_same, upd_g, if_pos rfl]
    obtain ⟨s5, k1, k2, k3, k4, k5⟩ := lq_193 (d := d + 2) P H.1 1 mjN 0 z4 (by omega) (by omega) (by unfold mjN; omega) (by omega) ((hW2.ws c2).ws o4) h5 (by rw [g4, uI_same, upd_g, if_pos rfl]; rfl) (by rw [e94]; exact c4.kn a4)
    refine ⟨s5, ?_, offG.tr o1 (offG.tr a2.toC (offG.tr c2 (offG.tr o4 k2))), k3, k4, by rw [k5, e94]; exact c4.kn a4⟩
    rw [e_193]
    unfold f_193 b_193_0
    rw [xg_91_5, h0, if_pos rfl, xp_91_5 (by decide), ← g1, xV_91, a1', bN_s, xV_91, c1, bN_s, xp_91_9, ← g4]
    exact k1
  · refine ⟨s, ?_, offG.rf, h1, h2, h3⟩
    rw [e_193]
    unfold f_193 b_193_0
    rw [xg_91_5, h1, if_neg (show ¬ ((1 : Int32) = 0) by decide)]
end MJB97
