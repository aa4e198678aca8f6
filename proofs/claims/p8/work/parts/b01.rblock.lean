/-! ===== the reference judges one order: BLOCKS, what fits ===== -/
section MJB01
variable {T : TT} {d N b k t c n m v w p q kq Xe i : Nat} {ks : List Nat} {L : List CD} {s s' s'' z : mjSt3} {tr : Bool} {E : EV} {j : JS} {x : WS} {r : Row} {u : mjU} {mm : Option Nat}
/-- fits, fail if not, then on -/
theorem fitK (Ac : ACY T N L) (S : BS T N b ks L tr z) (g : gR0 z) (hp : p < 200) (hq : q < 200) {al al' : Bool} (Y : TY1 L b z p t al) (Z : TY1 L b z q w al') (hk : k < 10000) (K : mjH → mjU) : ∃ z', bI (mjF (d + 3) 334 [.ref 97, .int (nI p), .int (nI q)] (mjW0 z)) (fun v hp => if v = 0 then gR hp 97 12 55 (fun v6 => aI hp v6 (nI k) (fun v7 => rV hp 97 12 (bN (mjF (d + 3) 268 [.ref 97, .int 7, .int v7] hp) (fun hp8 => K hp8)))) else K hp) = K (mjW0 z') ∧ oQ n z z' ∧ z'.1 97 82 = z.1 97 82 ∧ z'.1 155 = z.1 155 ∧ z'.1 156 = z.1 156 ∧ z'.1 157 = z.1 157 ∧ (fitT T L t w = true → gR0 z') ∧ (¬ fitT T L t w = true → bR0 z') := by
  obtain ⟨s1, a1, a2⟩ := x_334 (d := d) Ac S.1.1 S.2.1.2 hp hq Y Z
  rw [a1, bI_s]
  by_cases f : fitT T L t w = true
  · rw [f, if_neg (by decide)]
    exact ⟨s1, rfl, a2.Q2, a2.f (by decide), a2.r (by decide) (by decide) (by decide), a2.r (by decide) (by decide) (by decide), a2.r (by decide) (by decide) (by decide), fun _ => oUp.g a2 g, fun h => absurd rfl h⟩
  · have ff : fitT T L t w = false := by
      cases e : fitT T L t w with
      | false => rfl
      | true => exact absurd e f
    obtain ⟨s2, b1, b2', b3⟩ := x_268 (d := d + 2) (s := s1) (Or.inl (oUp.g a2 g)) (a := 7) (by decide) (s1.1 144 k)
    rw [ff, if_pos (by decide), xg_97_55, wa_144 hk, xV_97, b1, bN_s]
    refine ⟨s2, rfl, (oUp.Q2 a2).tr (o61.Q2 b2'), ?_, ?_, ?_, ?_, fun h => absurd h (by decide), fun _ => b3⟩
    · rw [b2'.1 97 82 (by omega)]; exact a2.f (by decide)
    · rw [show s2.1 155 = s1.1 155 from funext fun y => b2'.1 155 y (by omega)]; exact a2.r (by decide) (by decide) (by decide)
    · rw [show s2.1 156 = s1.1 156 from funext fun y => b2'.1 156 y (by omega)]; exact a2.r (by decide) (by decide) (by decide)
    · rw [show s2.1 157 = s1.1 157 from funext fun y => b2'.1 157 y (by omega)]; exact a2.r (by decide) (by decide) (by decide)
theorem VB.dp {vs : List VE} {td dp dp' X : Nat} {nw nw' : Int64 × Nat} (V : VB L b s vs td false nw dp X Xe) : VB L b s vs td false nw' dp' X Xe := ⟨V.1, V.2.1, V.2.2.1, V.2.2.2.1, V.2.2.2.2.1, V.2.2.2.2.2.1, fun h => by cases h⟩
theorem j_26 (S : BS E.1 N b ks E.2.1 E.2.2.1 s) (g : gR0 s) (R : BR E.2.1 b s j x Xe) (row : Rw s (5000 * b + i) r) (hi : i < 5000) (hr : r.1 = 26) (pn : x.2.2.2.1 = false) : gJ E N b ks i kq Xe r j x s (mjF (d + 7) 323 [.ref 97, .int (nI (5000 * b + i))] (mjW0 s)) := by
  have J := S.1.1
  have hn := J.2.2.2.2.2.1
  have hb := J.b1
  have h60 := R.1.2.2.2
  have hl := R.1.2.2.1
  obtain ⟨z, hz⟩ : ∃ z, z = uI s 97 (upd (s.1 97) 88 (nI (j.2.2.2.2.1 + 1))) := ⟨_, rfl⟩
  have r1 : ∀ h, ¬ h = 97 → z.1 h = s.1 h := fun h e => by rw [hz]; exact uI_ne _ _ _ _ e
  have f1 : ∀ y, ¬ y = 88 → z.1 97 y = s.1 97 y := fun y e => by rw [hz, uI_same, upd_g, if_neg e]
  have oz : oV (5000 * b + i) s z := by rw [hz]; exact offG.w (Or.inl ⟨rfl, by omega⟩)
  have hj : jrow E r j = some ((j.1, j.2.1, j.2.2.1, j.2.2.2.1, j.2.2.2.2.1 + 1, j.2.2.2.2.2), []) := by
    unfold jrow
    rw [hr, if_neg (by decide), if_neg (by decide), if_neg (by decide), if_neg (by decide), if_neg (by decide), if_neg (by decide), if_neg (by decide), if_neg (by decide), if_neg (by decide), if_neg (by decide), if_neg (by decide), if_neg (by decide), if_neg (by decide), if_neg (by decide), if_neg (by decide), if_neg (by decide), if_neg (by decide), if_neg (by decide), if_neg (by decide), if_neg (by decide), if_neg (by decide), if_neg (by decide), if_neg (by decide), if_pos rfl]
  have hx : nxW r i x = (x.1, x.2.1, x.2.2.1, x.2.2.2.1, x.2.2.2.2 + 1) := by
    unfold nxW
    rw [hr, if_neg (by decide), if_neg (by decide), if_neg (by decide), if_neg (by decide), if_neg (by decide), if_neg (by decide), if_neg (by decide), if_neg (by decide), if_pos rfl]
  have pre : mjF (d + 7) 323 [.ref 97, .int (nI (5000 * b + i))] (mjW0 s) = some (none, mjW0 z) := by
    rw [e_323]
    unfold f_323 b_323_0 b_323_517
    rw [xg_97_54, wa_143 (by omega), row.1, hr, if_neg (by decide), if_neg (by decide), if_neg (by decide), if_neg (by decide), if_neg (by decide), if_neg (by decide), if_neg (by decide), if_neg (by decide), if_neg (by decide), if_neg (by decide), if_neg (by decide), if_neg (by decide), if_neg (by decide), if_neg (by decide), if_neg (by decide), if_neg (by decide), if_neg (by decide), if_neg (by decide), if_neg (by decide), if_neg (by decide), if_neg (by decide), if_neg (by decide), if_neg (by decide), if_pos rfl, xV_97, e_335]
    unfold f_335 b_335_0
    rw [xg_97_54, wa_143 (by omega), row.1, hr, if_neg (by decide), if_neg (by decide), if_neg (by decide), if_neg (by decide), if_neg (by decide), if_neg (by decide), if_neg (by decide), if_neg (by decide), if_neg (by decide), if_pos rfl, xg_97_88, R.2.2.2.1.1, nI_1, xp_97_88, ← hz, bN_s]
  refine gJ.ok hj S pre oz (by show z.1 97 61 = 0; rw [f1 61 (by decide)]; exact g) ?_ ?_ (by rw [hr]; decide) (by rw [hr]; decide)
  · rw [hx]
    obtain ⟨⟨t1, t2, t3, t4⟩, ⟨c1, c2, c3⟩, ⟨v1, v2⟩, ⟨d1, d2⟩, l⟩ := R
    rw [pn] at v1
    refine ⟨⟨by rw [f1 82 (by decide)]; exact t1, TSs.same hn t2 (r1 _ (by decide)) (r1 _ (by decide)) (r1 _ (by decide)), t3, t4⟩, ⟨by rw [f1 92 (by decide)]; exact c1, PDs.same hn c2 (r1 _ (by decide)) (r1 _ (by decide)), c3⟩, ⟨?_, v2⟩, ⟨by rw [hz, uI_same, upd_g, if_pos rfl], by show j.2.2.2.2.1 + 1 = x.2.2.2.2 + 1; rw [d2]⟩, by rw [r1 145 (by decide)]; exact l⟩
    show VB E.2.1 b z j.2.2.1 j.2.2.2.1 x.2.2.2.1 _ _ x.1.1 Xe
    rw [pn]
    exact VB.dp (v1.same (by rw [hz]; rfl) (r1 _ (by decide)) (r1 _ (by decide)) (r1 _ (by decide)) (f1 87 (by decide)) (r1 _ (by decide)) (r1 _ (by decide)) (r1 _ (by decide)))
  · rw [r1 145 (by decide), row.2.2.1, nA_o (by rw [hr]; decide) (by rw [hr]; decide) (by rw [hr]; decide) (by rw [hr]; decide) (by rw [hr]; decide) (by rw [hr]; decide)]
theorem L335_S (R : mjR) (n a : Nat) (b : Int32) (hp : mjH) : L_335_458 R (n + 1) a b hp = b_335_458 R (L_335_458 R n) a b hp := rfl
theorem lq_335c (R : mjR) {f g : Nat → Int32} {td dp : Nat} (htd : td ≤ 16) : ∀ (r i m : Nat) (s : mjSt3), i + r = td → r < m → s.1 97 87 = nI td → s.1 97 88 = nI (dp + 1) → s.1 160 = g → (∀ v, v < i → s.1 161 v = if f v = 0 ∨ g v = nI (dp + 1) then 0 else 1) → (∀ v, i ≤ v → s.1 161 v = f v) → ∃ s', L_335_458 R m 97 (nI i) (mjW0 s) = some (none, mjW0 s') ∧ (∀ h, ¬ h = 97 → ¬ h = 161 → s'.1 h = s.1 h) ∧ (∀ y, ¬ y = 88 → s'.1 97 y = s.1 97 y) ∧ s'.1 97 88 = nI dp ∧ s'.2 = s.2 ∧ ∀ v, v < td → s'.1 161 v = if f v = 0 ∨ g v = nI (dp + 1) then 0 else 1
  | r, i, 0, s, e, hr, h7, h8, h0, w1, w2 => by omega
  | 0, i, m + 1, s, e, hr, h7, h8, h0, w1, w2 => by
    refine ⟨uI s 97 (upd (s.1 97) 88 (nI dp)), ?_, fun h h1 _ => uI_ne _ _ _ _ h1, fun y hy => by rw [uI_same, upd_g, if_neg hy], by rw [uI_same, upd_g, if_pos rfl], rfl, fun v hv => by rw [uI_ne _ _ _ _ (by decide)]; exact w1 v (by omega)⟩
    rw [L335_S]
    unfold b_335_458
    rw [xg_97_87, h7, if_pos (nI_le (by omega) (by omega)), xg_97_88, h8, nI_pred, xp_97_88]
  | r + 1, i, m + 1, s, e, hr, h7, h8, h0, w1, w2 => by
    have go : ∀ a : Int32, a = (if f i = 0 ∨ g i = nI (dp + 1) then 0 else 1) → L_335_458 R (m + 1) 97 (nI i) (mjW0 s) = L_335_458 R m 97 (nI (i + 1)) (mjW0 (uI s 161 (upd (s.1 161) i a))) → ∃ s', L_335_458 R (m + 1) 97 (nI i) (mjW0 s) = some (none, mjW0 s') ∧ (∀ h, ¬ h = 97 → ¬ h = 161 → s'.1 h = s.1 h) ∧ (∀ y, ¬ y = 88 → s'.1 97 y = s.1 97 y) ∧ s'.1 97 88 = nI dp ∧ s'.2 = s.2 ∧ ∀ v, v < td → s'.1 161 v = if f v = 0 ∨ g v = nI (dp + 1) then 0 else 1 := by
      intro a ha pre
      have r1 : ∀ h, ¬ h = 161 → (uI s 161 (upd (s.1 161) i a)).1 h = s.1 h := fun h e => uI_ne _ _ _ _ e
      obtain ⟨s', b1, b2', b3, b4, b5, b6⟩ := lq_335c R (f := f) (g := g) (dp := dp) htd r (i + 1) m (uI s 161 (upd (s.1 161) i a)) (by omega) (by omega) (by rw [r1 97 (by decide)]; exact h7) (by rw [r1 97 (by decide)]; exact h8) (by rw [r1 160 (by decide)]; exact h0) (fun v hv => by
        rw [uI_same, upd_g]
        by_cases e' : v = i
        · rw [if_pos e', ha, e']
        · rw [if_neg e']; exact w1 v (by omega)) (fun v hv => by
        rw [uI_same, upd_g, if_neg (by omega)]
        exact w2 v (by omega))
      exact ⟨s', pre.trans b1, fun h h1 h2 => by rw [b2' h h1 h2, r1 h h2], fun y hy => by rw [b3 y hy, r1 97 (by decide)], b4, b5, b6⟩
    have v6 := w2 i (Nat.le_refl _)
    by_cases q0 : f i = 0
    · refine go 0 (by rw [if_pos (Or.inl q0)]) ?_
      rw [L335_S]
      unfold b_335_458 b_335_497 b_335_498
      rw [xg_97_87, h7, if_neg (nI_ge (by omega) (by omega)), xg_97_86, xg_97_86, wa_161 (by omega), v6, if_pos q0, ws_161 (by omega), nI_1]
      rfl
    · by_cases q1 : g i = nI (dp + 1)
      · refine go 0 (by rw [if_pos (Or.inr q1)]) ?_
        rw [L335_S]
        unfold b_335_458 b_335_497 b_335_498
        rw [xg_97_87, h7, if_neg (nI_ge (by omega) (by omega)), xg_97_86, xg_97_86, wa_161 (by omega), v6, if_neg q0, xg_97_85, wa_160 (by omega), h0, xg_97_88, h8, if_pos q1, ws_161 (by omega), nI_1]
        rfl
      · refine go 1 (by rw [if_neg (fun h => h.elim q0 q1)]) ?_
        rw [L335_S]
        unfold b_335_458 b_335_497 b_335_498
        rw [xg_97_87, h7, if_neg (nI_ge (by omega) (by omega)), xg_97_86, xg_97_86, wa_161 (by omega), v6, if_neg q0, xg_97_85, wa_160 (by omega), h0, xg_97_88, h8, if_neg q1, ws_161 (by omega), nI_1]
        rfl
theorem j_27 (S : BS E.1 N b ks E.2.1 E.2.2.1 s) (g : gR0 s) (R : BR E.2.1 b s j x Xe) (row : Rw s (5000 * b + i) r) (hi : i < 5000) (hr : r.1 = 27) (pn : x.2.2.2.1 = false) (dp1 : 1 ≤ j.2.2.2.2.1) (dp2 : j.2.2.2.2.1 ≤ 30000) : gJ E N b ks i kq Xe r j x s (mjF (d + 7) 323 [.ref 97, .int (nI (5000 * b + i))] (mjW0 s)) := by
  have J := S.1.1
  have hn := J.2.2.2.2.2.1
  have hb := J.b1
  have h60 := R.1.2.2.2
  have hl := R.1.2.2.1
  have hmj := mjN_v
  obtain ⟨⟨t1, t2, t3, t4⟩, ⟨c1, c2, c3⟩, ⟨v1, v2⟩, ⟨d1, d2⟩, l⟩ := R
  rw [pn] at v1
  obtain ⟨u1, u2, u3, u4, u5, u6, u7⟩ := v1
  rw [if_neg (show ¬ false = true by decide), Nat.add_zero] at u4 u5 u6
  have dd : j.2.2.2.2.1 = j.2.2.2.2.1 - 1 + 1 := by omega
  rw [dd] at d1
  obtain ⟨z, b1, b2', b3, b4, b5, b6⟩ := lq_335c (mjF (d + 5)) (f := s.1 161) (g := s.1 160) (td := j.2.2.2.1) (dp := j.2.2.2.2.1 - 1) u6 j.2.2.2.1 0 mjN s (by omega) (by omega) u5 d1 rfl (fun v hv => by omega) (fun v _ => rfl)
  rw [← dd] at b6
  have hj : jrow E r j = some ((j.1, j.2.1, j.2.2.1.filter (fun e => decide (¬ e.2.2.2 = j.2.2.2.2.1)), j.2.2.2.1, j.2.2.2.2.1 - 1, j.2.2.2.2.2), []) := by
    unfold jrow
    rw [hr, if_neg (by decide), if_neg (by decide), if_neg (by decide), if_neg (by decide), if_neg (by decide), if_neg (by decide), if_neg (by decide), if_neg (by decide), if_neg (by decide), if_neg (by decide), if_neg (by decide), if_neg (by decide), if_neg (by decide), if_neg (by decide), if_neg (by decide), if_neg (by decide), if_neg (by decide), if_neg (by decide), if_neg (by decide), if_neg (by decide), if_neg (by decide), if_neg (by decide), if_neg (by decide), if_neg (by decide), if_pos rfl]
  have hx : nxW r i x = (x.1, x.2.1, x.2.2.1, x.2.2.2.1, x.2.2.2.2 - 1) := by
    unfold nxW
    rw [hr, if_neg (by decide), if_neg (by decide), if_neg (by decide), if_neg (by decide), if_neg (by decide), if_neg (by decide), if_neg (by decide), if_neg (by decide), if_neg (by decide), if_pos rfl]
  have pre : mjF (d + 7) 323 [.ref 97, .int (nI (5000 * b + i))] (mjW0 s) = some (none, mjW0 z) := by
    rw [e_323]
    unfold f_323 b_323_0 b_323_517
    rw [xg_97_54, wa_143 (by omega), row.1, hr, if_neg (by decide), if_neg (by decide), if_neg (by decide), if_neg (by decide), if_neg (by decide), if_neg (by decide), if_neg (by decide), if_neg (by decide), if_neg (by decide), if_neg (by decide), if_neg (by decide), if_neg (by decide), if_neg (by decide), if_neg (by decide), if_neg (by decide), if_neg (by decide), if_neg (by decide), if_neg (by decide), if_neg (by decide), if_neg (by decide), if_neg (by decide), if_neg (by decide), if_neg (by decide), if_neg (by decide), if_pos rfl, xV_97, e_335]
    unfold f_335 b_335_0
    rw [xg_97_54, wa_143 (by omega), row.1, hr, if_neg (by decide), if_neg (by decide), if_neg (by decide), if_neg (by decide), if_neg (by decide), if_neg (by decide), if_neg (by decide), if_neg (by decide), if_neg (by decide), if_neg (by decide), if_pos rfl, show (0 : Int32) = nI 0 from rfl, b1, bN_s]
  have oz : oV (5000 * b + i) s z := ⟨fun h y hh => by
    by_cases e : h = 97
    · subst e; exact b3 y (by omega)
    · rw [b2' h e (by omega)], fun h y _ => by rw [b5], by rw [b5]⟩
  refine gJ.ok hj S pre oz (by show z.1 97 61 = 0; rw [b3 61 (by decide)]; exact g) ?_ ?_ (by rw [hr]; decide) (by rw [hr]; decide)
  · rw [hx]
    refine ⟨⟨by rw [b3 82 (by decide)]; exact t1, TSs.same hn t2 (b2' _ (by decide) (by decide)) (b2' _ (by decide) (by decide)) (b2' _ (by decide) (by decide)), t3, t4⟩, ⟨by rw [b3 92 (by decide)]; exact c1, PDs.same hn c2 (b2' _ (by decide) (by decide)) (b2' _ (by decide) (by decide)), c3⟩, ⟨?_, v2⟩, ⟨b4, by show j.2.2.2.2.1 - 1 = x.2.2.2.2 - 1; rw [d2]⟩, by rw [b2' 145 (by decide) (by decide)]; exact l⟩
    show VB E.2.1 b z (j.2.2.1.filter (fun e => decide (¬ e.2.2.2 = j.2.2.2.2.1))) j.2.2.2.1 x.2.2.2.1 _ _ x.1.1 Xe
    rw [pn]
    refine ⟨fun e he => ?_, fun v hv => ?_, u3.filter _, ?_, ?_, ?_, fun h => by cases h⟩
    · rw [List.mem_filter] at he
      obtain ⟨he, hd⟩ := he
      have hd' : ¬ e.2.2.2 = j.2.2.2.2.1 := of_decide_eq_true hd
      obtain ⟨a1, a2, a3, a4, a5, a6⟩ := u1 e he
      refine ⟨a1, by rw [b5]; exact a2, by rw [b2' 159 (by decide) (by decide)]; exact a3.cg (b2' _ (by decide) (by decide)) (b2' _ (by decide) (by decide)) (b2' _ (by decide) (by decide)), by rw [b2' 160 (by decide) (by decide)]; exact a4, ?_, a6⟩
      rw [b6 _ a1, if_neg]
      intro h
      rcases h with h | h
      · rw [a5] at h; exact absurd h (by decide)
      · rw [a4] at h
        exact hd' ((nI_eq (by omega) (by omega)).mp h)
    · rw [b6 v hv]
      rcases u2 v hv with h | ⟨e, he, ev⟩
      · exact Or.inl (if_pos (Or.inl h))
      · by_cases q : e.2.2.2 = j.2.2.2.2.1
        · refine Or.inl (if_pos (Or.inr ?_))
          rw [← ev, (u1 e he).2.2.2.1, q]
        · exact Or.inr ⟨e, List.mem_filter.mpr ⟨he, decide_eq_true q⟩, ev⟩
    · rw [if_neg (show ¬ false = true by decide), Nat.add_zero, b2' 159 (by decide) (by decide)]; exact u4
    · rw [if_neg (show ¬ false = true by decide), Nat.add_zero, b3 87 (by decide)]; exact u5
    · rw [if_neg (show ¬ false = true by decide), Nat.add_zero]; exact u6
  · rw [b2' 145 (by decide) (by decide), row.2.2.1, nA_o (by rw [hr]; decide) (by rw [hr]; decide) (by rw [hr]; decide) (by rw [hr]; decide) (by rw [hr]; decide) (by rw [hr]; decide)]
end MJB01
