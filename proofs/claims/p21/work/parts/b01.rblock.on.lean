section
/-! ===== the reference judges one order: BLOCKS, what fits ===== -/
section MJB01
variable {T : TT} {d N b k t c n m v w p q kq Xe i : Nat} {ks : List Nat} {L : List CD} {s s' s'' z : mjSt3} {tr : Bool} {E : EV} {j : JS} {x : WS} {r : Row} {u : mjU} {mm : Option Nat}
/-- fits, fail if not, then on -/
theorem fitK (Ac : ACY T N L) (S : BS T N b ks L tr z) (g : gR0 z) (hp : p < 200) (hq : q < 200) {al al' : Bool} (Y : TY1 L b z p t al) (Z : TY1 L b z q w al') (hk : k < 10000) (K : mjH → mjU) : ∃ z', bI (mjF (d + 3) 334 [.ref 97, .int (nI p), .int (nI q)] (mjW0 z)) (fun v hp => if v = 0 then gR hp 97 12 55 (fun v6 => aI hp v6 (nI k) (fun v7 => rV hp 97 12 (bN (mjF (d + 3) 268 [.ref 97, .int 7, .int v7] hp) (fun hp8 => K hp8)))) else K hp) = K (mjW0 z') ∧ oQ n z z' ∧ z'.1 97 82 = z.1 97 82 ∧ z'.1 155 = z.1 155 ∧ z'.1 156 = z.1 156 ∧ z'.1 157 = z.1 157 ∧ (fitT T L t w = true → gR0 z') ∧ (¬ fitT T L t w = true → bR0 z') := by
  obtain ⟨s1, a1, a2⟩ := x_334 (d := d) Ac S.1.1 S.2.1.2 hp hq Y Z
  rw [a1, bI_s]
  by_cases f : fitT T L t w = true
  · rw [f, if_neg (by decide)]
    exact ⟨s1, rfl, a2.Q2, a2.f (by decide), a2.r (by decide) (by decide) (by decide), a2.r (by decide) (by decide) (by decide), a2.r (by decide) (by decide) (by decide), fun _ => oUp.g a2 g, fun h => absurd rfl h⟩
  · have ff : fitT T L t w = false := by
      cases e : fitT T L t w with
      | false => rfl
      | true => exact absurd e f
    obtain ⟨s2, b1, b2', b3⟩ := x_268 (d := d + 2) (s := s1) (Or.inl (oUp.g a2 g)) (a := 7) (by decide) (s1.1 144 k)
    rw [ff, if_pos (by decide), xg_97_55, wa_144 hk, xV_97, b1, bN_s]
    refine ⟨s2, rfl, (oUp.Q2 a2).tr (o61.Q2 b2'), ?_, ?_, ?_, ?_, fun h => absurd h (by decide), fun _ => b3⟩
    · rw [b2'.1 97 82 (by omega)]; exact a2.f (by decide)
    · rw [show s2.1 155 = s1.1 155 from funext fun y => b2'.1 155 y (by omega)]; exact a2.r (by decide) (by decide) (by decide)
    · rw [show s2.1 156 = s1.1 156 from funext fun y => b2'.1 156 y (by omega)]; exact a2.r (by decide) (by decide) (by decide)
    · rw [show s2.1 157 = s1.1 157 from funext fun y => b2'.1 157 y (by omega)]; exact a2.r (by decide) (by decide) (by decide)
theorem VB.dp {vs : List VE} {td dp dp' X : Nat} {nw nw' : Int64 × Nat} (V : VB L b s vs td false nw dp X Xe) : VB L b s vs td false nw' dp' X Xe := ⟨V.1, V.2.1, V.2.2.1, V.2.2.2.1, V.2.2.2.2.1, V.2.2.2.2.2.1, fun h => by cases h⟩
theorem j_26 (S : BS E.1 N b ks E.2.1 E.2.2.1 s) (g : gR0 s) (R : BR E.2.1 b s j x Xe) (row : Rw s (5000 * b + i) r) (hi : i < 5000) (hr : r.1 = 26) (pn : x.2.2.2.1 = false) : gJ E N b ks i kq Xe r j x s (mjF (d + 7) 323 [.ref 97, .int (nI (5000 * b + i))] (mjW0 s)) := by
  have J := S.1.1
  have hn := J.2.2.2.2.2.1
  have hb := J.b1
  have h60 := R.1.2.2.2
  have hl := R.1.2.2.1
  obtain ⟨z, hz⟩ : ∃ z, z = uI s 97 (upd (s.1 97) 88 (nI (j.2.2.2.2.1 + 1))) := ⟨_, rfl⟩
  have r1 : ∀ h, ¬ h = 97 → z.1 h = s.1 h := fun h e => by rw [hz]; exact uI_ne _ _ _ _ e
  have f1 : ∀ y, ¬ y = 88 → z.1 97 y = s.1 97 y := fun y e => by rw [hz, uI_same, upd_g, if_neg e]
  have oz : oV (5000 * b + i) s z := by rw [hz]; exact offG.w (Or.inl ⟨rfl, by omega⟩)
  have hj : jrow E r j = some ((j.1, j.2.1, j.2.2.1, j.2.2.2.1, j.2.2.2.2.1 + 1, j.2.2.2.2.2), []) := by
    unfold jrow
    rw [hr, if_neg (by decide), if_neg (by decide), if_neg (by decide), if_neg (by decide), if_neg (by decide), if_neg (by decide), if_neg (by decide), if_neg (by decide), if_neg (by decide), if_neg (by decide), if_neg (by decide), if_neg (by decide), if_neg (by decide), if_neg (by decide), if_neg (by decide), if_neg (by decide), if_neg (by decide), if_neg (by decide), if_neg (by decide), if_neg (by decide), if_neg (by decide), if_neg (by decide), if_neg (by decide), if_pos rfl]
  have hx : nxW r i x = (x.1, x.2.1, x.2.2.1, x.2.2.2.1, x.2.2.2.2 + 1) := by
    unfold nxW
    rw [hr, if_neg (by decide), if_neg (by decide), if_neg (by decide), if_neg (by decide), if_neg (by decide), if_neg (by decide), if_neg (by decide), if_neg (by decide), if_pos rfl]
  have pre : mjF (d + 7) 323 [.ref 97, .int (nI (5000 * b + i))] (mjW0 s) = some (none, mjW0 z) := by
    rw [e_323]
    unfold f_323 b_323_0 b_323_517
    rw [xg_97_54, wa_143 (by omega), row.1, hr, if_neg (by decide), if_neg (by decide), if_neg (by decide), if_neg (by decide), if_neg (by decide), if_neg (by decide), if_neg (by decide), if_neg (by decide), if_neg (by decide), if_neg (by decide), if_neg (by decide), if_neg (by decide), if_neg (by decide), if_neg (by decide), if_neg (by decide), if_neg (by decide), if_neg (by decide), if_neg (by decide), if_neg (by decide), if_neg (by decide), if_neg (by decide), if_neg (by decide), if_neg (by decide), if_pos rfl, xV_97, e_335]
    unfold f_335 b_335_0
    rw [xg_97_54, wa_143 (by omega), row.1, hr, if_neg (by decide), if_neg (by decide), if_neg (by decide), if_neg (by decide), if_neg (by decide), if_neg (by decide), if_neg (by decide), if_neg (by decide), if_neg (by decide), if_pos rfl, xg_97_88, R.2.2.2.1.1, nI_1, xp_97_88, ← hz, bN_s]
  refine gJ.ok hj S pre oz (by show z.1 97 61 = 0; rw [f1 61 (by decide)]; exact g) ?_ ?_ (by rw [hr]; decide) (by rw [hr]; decide)
  · rw [hx]
    obtain ⟨⟨t1, t2, t3, t4⟩, ⟨c1, c2, c3⟩, ⟨v1, v2⟩, ⟨d1, d2⟩, l⟩ := R
    rw [pn] at v1
    refine ⟨⟨by rw [f1 82 (by decide)]; exact t1, TSs.same hn t2 (r1 _ (by decide)) (r1 _ (by decide)) (r1 _ (by decide)), t3, t4⟩, ⟨by rw [f1 92 (by decide)]; exact c1, PDs.same hn c2 (r1 _ (by decide)) (r1 _ (by decide)), c3⟩, ⟨?_, v2⟩, ⟨by rw [hz, uI_same, upd_g, if_pos rfl], by show j.2.2.2.2.1 + 1 = x.2.2.2.2 + 1; rw [d2]⟩, by rw [r1 145 (by decide)]; exact l⟩
    show VB E.2.1 b z j.2.2.1 j.2.2.2.1 x.2.2.2.1 _ _ x.1.1 Xe
    rw [pn]
    exact VB.dp (v1.same (by rw [hz]; rfl) (r1 _ (by decide)) (r1 _ (by decide)) (r1 _ (by decide)) (f1 87 (by decide)) (r1 _ (by decide)) (r1 _ (by decide)) (r1 _ (by decide)))
  · rw [r1 145 (by decide), row.2.2.1, nA_o (by rw [hr]; decide) (by rw [hr]; decide) (by rw [hr]; decide) (by rw [hr]; decide) (by rw [hr]; decide) (by rw [hr]; decide)]
theorem L335_S (R : mjR) (n a : Nat) (b : Int32) (hp : mjH) : L_335_458 R (n + 1) a b hp = b_335_458 R (L_335_458 R n) a b hp := rfl
theorem lq_335c (R : mjR) {f g : Nat → Int32} {td dp : Nat} (htd : td ≤ 16) : ∀ (r i m : Nat) (s : mjSt3), i + r = td → r < m → s.1 97 87 = nI td → s.1 97 88 = nI (dp + 1) → s.1 160 = g → (∀ v, v < i → s.1 161 v = if f v = 0 ∨ g v = nI (dp + 1) then 0 else 1) → (∀ v, i ≤ v → s.1 161 v = f v) → ∃ s', L_335_458 R m 97 (nI i) (mjW0 s) = some (none, mjW0 s') ∧ (∀ h, ¬ h = 97 → ¬ h = 161 → s'.1 h = s.1 h) ∧ (∀ y, ¬ y = 88 → s'.1 97 y = s.1 97 y) ∧ s'.1 97 88 = nI dp ∧ s'.2 = s.2 ∧ ∀ v, v < td → s'.1 161 v = if f v = 0 ∨ g v = nI (dp + 1) then 0 else 1
  | r, i, 0, s, e, hr, h7, h8, h0, w1, w2 => by omega
  | 0, i, m + 1, s, e, hr, h7, h8, h0, w1, w2 => by
    refine ⟨uI s 97 (upd (s.1 97) 88 (nI dp)), ?_, fun h h1 _ => uI_ne _ _ _ _ h1, fun y hy => by rw [uI_same, upd_g, if_neg hy], by rw [uI_same, upd_g, if_pos rfl], rfl, fun v hv => by rw [uI_ne _ _ _ _ (by decide)]; exact w1 v (by omega)⟩
    rw [L335_S]
    unfold b_335_458
    rw [xg_97_87, h7, if_pos (nI_le (by omega) (by omega)), xg_97_88, h8, nI_pred, xp_97_88]
  | r + 1, i, m + 1, s, e, hr, h7, h8, h0, w1, w2 => by
    have go : ∀ a : Int32, a = (if f i = 0 ∨ g i = nI (dp + 1) then 0 else 1) → L_335_458 R (m + 1) 97 (nI i) (mjW0 s) = L_335_458 R m 97 (nI (i + 1)) (mjW0 (uI s 161 (upd (s.1 161) i a))) → ∃ s', L_335_458 R (m + 1) 97 (nI i) (mjW0 s) = some (none, mjW0 s') ∧ (∀ h, ¬ h = 97 → ¬ h = 161 → s'.1 h = s.1 h) ∧ (∀ y, ¬ y = 88 → s'.1 97 y = s.1 97 y) ∧ s'.1 97 88 = nI dp ∧ s'.2 = s.2 ∧ ∀ v, v < td → s'.1 161 v = if f v = 0 ∨ g v = nI (dp + 1) then 0 else 1 := by
      intro a ha pre
      have r1 : ∀ h, ¬ h = 161 → (uI s 161 (upd (s.1 161) i a)).1 h = s.1 h := fun h e => uI_ne _ _ _ _ e
      obtain ⟨s', b1, b2', b3, b4, b5, b6⟩ := lq_335c R (f := f) (g := g) (dp := dp) htd r (i + 1) m (uI s 161 (upd (s.1 161) i a)) (by omega) (by omega) (by rw [r1 97 (by decide)]; exact h7) (by rw [r1 97 (by decide)]; exact h8) (by rw [r1 160 (by decide)]; exact h0) (fun v hv => by
        rw [uI_same, upd_g]
        by_cases e' : v = i
        · rw [if_pos e', ha, e']
        · rw [if_neg e']; exact w1 v (by omega)) (fun v hv => by
        rw [uI_same, upd_g, if_neg (by omega)]
        exact w2 v (by omega))
      exact ⟨s', pre.trans b1, fun h h1 h2 => by rw [b2' h h1 h2, r1 h h2], fun y hy => by rw [b3 y hy, r1 97 (by decide)], b4, b5, b6⟩
    have v6 := w2 i (Nat.le_refl _)
    by_cases q0 : f i = 0
    · refine go 0 (by rw [if_pos (Or.inl q0)]) ?_
      rw [L335_S]
      unfold b_335_458 b_335_497 b_335_498
      rw [xg_97_87, h7, if_neg (nI_ge (by omega) (by omega)), xg_97_86, xg_97_86, wa_161 (by omega), v6, if_pos q0, ws_161 (by omega), nI_1]
      rfl
    · by_cases q1 : g i = nI (dp + 1)
      · refine go 0 (by rw [if_pos (Or.inr q1)]) ?_
        rw [L335_S]
        unfold b_335_458 b_335_497 b_335_498
        rw [xg_97_87, h7, if_neg (nI_ge (by omega) (by omega)), xg_97_86, xg_97_86, wa_161 (by omega), v6, if_neg q0, xg_97_85, wa_160 (by omega), h0, xg_97_88, h8, if_pos q1, ws_161 (by omega), nI_1]
        rfl
      · refine go 1 (by rw [if_neg (fun h => h.elim q0 q1)]) ?_
        rw [L335_S]
        unfold b_335_458 b_335_497 b_335_498
        rw [xg_97_87, h7, if_neg (nI_ge (by omega) (by omega)), xg_97_86, xg_97_86, wa_161 (by omega), v6, if_neg q0, xg_97_85, wa_160 (by omega), h0, xg_97_88, h8, if_neg q1, ws_161 (by omega), nI_1]
        rfl
theorem j_27 (S : BS E.1 N b ks E.2.1 E.2.2.1 s) (g : gR0 s) (R : BR E.2.1 b s j x Xe) (row : Rw s (5000 * b + i) r) (hi : i < 5000) (hr : r.1 = 27) (pn : x.2.2.2.1 = false) (dp1 : 1 ≤ j.2.2.2.2.1) (dp2 : j.2.2.2.2.1 ≤ 30000) : gJ E N b ks i kq Xe r j x s (mjF (d + 7) 323 [.ref 97, .int (nI (5000 * b + i))] (mjW0 s)) := by
  have J := S.1.1
  have hn := J.2.2.2.2.2.1
  have hb := J.b1
  have h60 := R.1.2.2.2
  have hl := R.1.2.2.1
  have hmj := mjN_v
  obtain ⟨⟨t1, t2, t3, t4⟩, ⟨c1, c2, c3⟩, ⟨v1, v2⟩, ⟨d1, d2⟩, l⟩ := R
  rw [pn] at v1
  obtain ⟨u1, u2, u3, u4, u5, u6, u7⟩ := v1
  rw [if_neg (show ¬ false = true by decide), Nat.add_zero] at u4 u5 u6
  have dd : j.2.2.2.2.1 = j.2.2.2.2.1 - 1 + 1 := by omega
  rw [dd] at d1
  obtain ⟨z, b1, b2', b3, b4, b5, b6⟩ := lq_335c (mjF (d + 5)) (f := s.1 161) (g := s.1 160) (td := j.2.2.2.1) (dp := j.2.2.2.2.1 - 1) u6 j.2.2.2.1 0 mjN s (by omega) (by omega) u5 d1 rfl (fun v hv => by omega) (fun v _ => rfl)
  rw [← dd] at b6
  have hj : jrow E r j = some ((j.1, j.2.1, j.2.2.1.filter (fun e => decide (¬ e.2.2.2 = j.2.2.2.2.1)), j.2.2.2.1, j.2.2.2.2.1 - 1, j.2.2.2.2.2), []) := by
    unfold jrow
    rw [hr, if_neg (by decide), if_neg (by decide), if_neg (by decide), if_neg (by decide), if_neg (by decide), if_neg (by decide), if_neg (by decide), if_neg (by decide), if_neg (by decide), if_neg (by decide), if_neg (by decide), if_neg (by decide), if_neg (by decide), if_neg (by decide), if_neg (by decide), if_neg (by decide), if_neg (by decide), if_neg (by decide), if_neg (by decide), if_neg (by decide), if_neg (by decide), if_neg (by decide), if_neg (by decide), if_neg (by decide), if_pos rfl]
  have hx : nxW r i x = (x.1, x.2.1, x.2.2.1, x.2.2.2.1, x.2.2.2.2 - 1) := by
    unfold nxW
    rw [hr, if_neg (by decide), if_neg (by decide), if_neg (by decide), if_neg (by decide), if_neg (by decide), if_neg (by decide), if_neg (by decide), if_neg (by decide), if_neg (by decide), if_pos rfl]
  have pre : mjF (d + 7) 323 [.ref 97, .int (nI (5000 * b + i))] (mjW0 s) = some (none, mjW0 z) := by
    rw [e_323]
    unfold f_323 b_323_0 b_323_517
    rw [xg_97_54, wa_143 (by omega), row.1, hr, if_neg (by decide), if_neg (by decide), if_neg (by decide), if_neg (by decide), if_neg (by decide), if_neg (by decide), if_neg (by decide), if_neg (by decide), if_neg (by decide), if_neg (by decide), if_neg (by decide), if_neg (by decide), if_neg (by decide), if_neg (by decide), if_neg (by decide), if_neg (by decide), if_neg (by decide), if_neg (by decide), if_neg (by decide), if_neg (by decide), if_neg (by decide), if_neg (by decide), if_neg (by decide), if_neg (by decide), if_pos rfl, xV_97, e_335]
    unfold f_335 b_335_0
    rw [xg_97_54, wa_143 (by omega), row.1, hr, if_neg (by decide), if_neg (by decide), if_neg (by decide), if_neg (by decide), if_neg (by decide), if_neg (by decide), if_neg (by decide), if_neg (by decide), if_neg (by decide), if_neg (by decide), if_pos rfl, show (0 : Int32) = nI 0 from rfl, b1, bN_s]
  have oz : oV (5000 * b + i) s z := ⟨fun h y hh => by
    by_cases e : h = 97
    · subst e; exact b3 y (by omega)
    · rw [b2' h e (by omega)], fun h y _ => by rw [b5], by rw [b5]⟩
  refine gJ.ok hj S pre oz (by show z.1 97 61 = 0; rw [b3 61 (by decide)]; exact g) ?_ ?_ (by rw [hr]; decide) (by rw [hr]; decide)
  · rw [hx]
    refine ⟨⟨by rw [b3 82 (by decide)]; exact t1, TSs.same hn t2 (b2' _ (by decide) (by decide)) (b2' _ (by decide) (by decide)) (b2' _ (by decide) (by decide)), t3, t4⟩, ⟨by rw [b3 92 (by decide)]; exact c1, PDs.same hn c2 (b2' _ (by decide) (by decide)) (b2' _ (by decide) (by decide)), c3⟩, ⟨?_, v2⟩, ⟨b4, by show j.2.2.2.2.1 - 1 = x.2.2.2.2 - 1; rw [d2]⟩, by rw [b2' 145 (by decide) (by decide)]; exact l⟩
    show VB E.2.1 b z (j.2.2.1.filter (fun e => decide (¬ e.2.2.2 = j.2.2.2.2.1))) j.2.2.2.1 x.2.2.2.1 _ _ x.1.1 Xe
    rw [pn]
    refine ⟨fun e he => ?_, fun v hv => ?_, u3.filter _, ?_, ?_, ?_, fun h => by cases h⟩
    · rw [List.mem_filter] at he
      obtain ⟨he, hd⟩ := he
      have hd' : ¬ e.2.2.2 = j.2.2.2.2.1 := of_decide_eq_true hd
      obtain ⟨a1, a2, a3, a4, a5, a6⟩ := u1 e he
      refine ⟨a1, by rw [b5]; exact a2, by rw [b2' 159 (by decide) (by decide)]; exact a3.cg (b2' _ (by decide) (by decide)) (b2' _ (by decide) (by decide)) (b2' _ (by decide) (by decide)), by rw [b2' 160 (by decide) (by decide)]; exact a4, ?_, a6⟩
      rw [b6 _ a1, if_neg]
      intro h
      rcases h with h | h
      · rw [a5] at h; exact absurd h (by decide)
      · rw [a4] at h
        exact hd' ((nI_eq (by omega) (by omega)).mp h)
    · rw [b6 v hv]
      rcases u2 v hv with h | ⟨e, he, ev⟩
      · exact Or.inl (if_pos (Or.inl h))
      · by_cases q : e.2.2.2 = j.2.2.2.2.1
        · refine Or.inl (if_pos (Or.inr ?_))
          rw [← ev, (u1 e he).2.2.2.1, q]
        · exact Or.inr ⟨e, List.mem_filter.mpr ⟨he, decide_eq_true q⟩, ev⟩
    · rw [if_neg (show ¬ false = true by decide), Nat.add_zero, b2' 159 (by decide) (by decide)]; exact u4
    · rw [if_neg (show ¬ false = true by decide), Nat.add_zero, b3 87 (by decide)]; exact u5
    · rw [if_neg (show ¬ false = true by decide), Nat.add_zero]; exact u6
  · rw [b2' 145 (by decide) (by decide), row.2.2.1, nA_o (by rw [hr]; decide) (by rw [hr]; decide) (by rw [hr]; decide) (by rw [hr]; decide) (by rw [hr]; decide) (by rw [hr]; decide)]
end MJB01
end
section
/-! ===== the reference judges one order: return, =, what is told ===== -/
section MJB02
variable {T : TT} {d N b k t c n m v w p q kq Xe i : Nat} {ks : List Nat} {L : List CD} {s s' s'' s1 z : mjSt3} {tr : Bool} {E : EV} {j : JS} {x : WS} {r : Row} {u : mjU} {mm : Option Nat} {e : Nat × Bool} {st : List (Nat × Bool)}
/-- the last TYPE against one more that waits -/
theorem fit2 (Ac : ACY T N L) (S : BS T N b ks L tr s1) (g : gR0 s1) (o1 : oT (st.length + 1) s s1) (q2 : TSs L b s (e :: st)) {al : Bool} (Y1 : TY1 L b s1 (st.length + 1) w al) (h82 : s1.1 97 82 = nI (st.length + 2)) (h60 : st.length + 1 ≤ 60) (hk : k < 10000) (K : mjH → mjU) : ∃ z', bI (mjF (d + 3) 334 [.ref 97, .int (s1.1 97 82 - 2), .int (s1.1 97 82 - 1)] (mjW0 s1)) (fun v hp => if v = 0 then gR hp 97 12 55 (fun v6 => aI hp v6 (nI k) (fun v7 => rV hp 97 12 (bN (mjF (d + 3) 268 [.ref 97, .int 7, .int v7] hp) (fun hp8 => K hp8)))) else K hp) = K (mjW0 z') ∧ oQ st.length s z' ∧ z'.1 97 82 = nI (st.length + 2) ∧ TSs L b z' st ∧ (fitT T L e.1 w = true → gR0 z') ∧ (¬ fitT T L e.1 w = true → bR0 z') := by
  have hn := Ac.1
  have t1 : TSs L b s1 (e :: st) := TSs.keepT hn q2 o1 (Nat.le_refl _)
  obtain ⟨z', a1, a2, a3, a4, a5, a6, a7, a8⟩ := fitK (d := d) (n := st.length) (p := st.length) (q := st.length + 1) (k := k) Ac S g (by omega) (by omega) t1.1 Y1 hk K
  refine ⟨z', ?_, offG.tr (o1.Q2 (by omega)) a2, by rw [a3]; exact h82, TSs.same hn t1.2 a4 a5 a6, a7, a8⟩
  rw [← a1, h82, nI_p2, show nI (st.length + 2) - 1 = nI (st.length + 1) from nI_pred _]
theorem low2 (hn : HN T N L) (h2 : TSs L b z st) : ∃ s3, s3 = uI z 97 (upd (z.1 97) 82 (nI st.length)) ∧ oQ st.length z s3 ∧ TSs L b s3 st ∧ s3.1 97 82 = nI st.length ∧ s3.1 97 61 = z.1 97 61 := by
  refine ⟨_, rfl, oQ.w82, ?_, by rw [uI_same, upd_g, if_pos rfl], by rw [uI_same, upd_g, if_neg (by decide)]⟩
  exact TSs.same hn h2 (uI_ne _ _ _ _ (by decide)) (uI_ne _ _ _ _ (by decide)) (uI_ne _ _ _ _ (by decide))
theorem oQ.set (o : oQ n s z) {a : Int32} : oQ n (uI s 145 (upd (s.1 145) k a)) (uI z 145 (upd (z.1 145) k a)) := ⟨fun h y hh => by
  by_cases e : h = 145
  · subst e
    rw [uI_same, uI_same, o.r (h := 145) (by omega)]
  · rw [uI_ne _ _ _ _ e, uI_ne _ _ _ _ e]
    exact o.1 h y hh, fun h y hh => o.2.1 h y hh, o.2.2⟩
theorem j_28 (F : FX E.1 N b ks E.2.1 E.2.2.1) (S : BS E.1 N b ks E.2.1 E.2.2.1 s) (g : gR0 s) (W : NW E b mm s) (R : BR E.2.1 b s j x Xe) (row : Rw s (5000 * b + i) r) (hi : i < 5000) (hr : r.1 = 28) (lo : 1 ≤ x.1.2.1) : gJ E N b ks i kq Xe r j x s (mjF (d + 7) 323 [.ref 97, .int (nI (5000 * b + i))] (mjW0 s)) := by
  have J := S.1.1
  have hn := J.2.2.2.2.2.1
  have hb := J.b1
  have h60 := R.1.2.2.2
  have hl := R.1.2.2.1
  obtain ⟨e, st, ej⟩ := lst1 (show 1 ≤ j.1.length by omega)
  have q1 := R.1.1
  have q2 := R.1.2.1
  rw [ej] at q1 q2 hl h60
  rw [List.length_cons] at q1 hl h60
  have hj : jrow E r j = if fitT E.1 E.2.1 e.1 E.2.2.2.2.2.1 = true then some (jst j st ((jRS j).drop 1), [(9, 0, -1)]) else none := by
    unfold jrow
    rw [hr, if_neg (by decide), if_neg (by decide), if_neg (by decide), if_neg (by decide), if_neg (by decide), if_neg (by decide), if_neg (by decide), if_neg (by decide), if_neg (by decide), if_neg (by decide), if_neg (by decide), if_neg (by decide), if_neg (by decide), if_neg (by decide), if_neg (by decide), if_neg (by decide), if_neg (by decide), if_neg (by decide), if_neg (by decide), if_neg (by decide), if_neg (by decide), if_pos rfl, ej]
  have hx : nxW r i x = ((x.1.1, x.1.2.1 - 1, x.1.2.2.1, x.1.2.2.2 - 1), x.2) := nx_pop (by rw [hr]; decide) _ _
  have rt : ∃ ti, TKr E.2.1 b s ti E.2.2.2.2.2.1 ∧ mjF (d + 7) 323 [.ref 97, .int (nI (5000 * b + i))] (mjW0 s) = bN (b_335_383 (mjF (d + 5)) 97 (nI (5000 * b + i)) 97 ti (mjW0 s)) (fun hp1 => some (none, hp1)) := by
    have pre : mjF (d + 7) 323 [.ref 97, .int (nI (5000 * b + i))] (mjW0 s) = bN (if mR b mm = -1 then b_335_383 (mjF (d + 5)) 97 (nI (5000 * b + i)) 97 (-1) (mjW0 s) else aI (mjW0 s) 126 (mR b mm) (fun v46 => b_335_383 (mjF (d + 5)) 97 (nI (5000 * b + i)) 97 v46 (mjW0 s))) (fun hp1 => some (none, hp1)) := by
      rw [e_323]
      unfold f_323 b_323_0 b_323_517
      rw [xg_97_54, wa_143 (by omega), row.1, hr, if_neg (by decide), if_neg (by decide), if_neg (by decide), if_neg (by decide), if_neg (by decide), if_neg (by decide), if_neg (by decide), if_neg (by decide), if_neg (by decide), if_neg (by decide), if_neg (by decide), if_neg (by decide), if_neg (by decide), if_neg (by decide), if_neg (by decide), if_neg (by decide), if_neg (by decide), if_neg (by decide), if_neg (by decide), if_neg (by decide), if_neg (by decide), if_neg (by decide), if_neg (by decide), if_neg (by decide), if_neg (by decide), if_pos rfl, xV_97, e_335]
      unfold f_335 b_335_0
      rw [xg_97_54, wa_143 (by omega), row.1, hr, if_neg (by decide), if_neg (by decide), if_neg (by decide), if_neg (by decide), if_neg (by decide), if_neg (by decide), if_neg (by decide), if_neg (by decide), if_neg (by decide), if_neg (by decide), if_neg (by decide), if_pos rfl, xg_97_133, W.2.1, xg_97_37, xg_97_133, W.2.1]
    cases hm : mm with
    | none =>
      rw [hm] at pre
      rw [if_pos (show mR b none = -1 from rfl)] at pre
      refine ⟨-1, ?_, pre⟩
      rw [W.2.2.2.2 hm]
      rfl
    | some m =>
      rw [hm] at pre
      obtain ⟨m1, m2⟩ := W.2.2.2.1 m hm
      have m384 := J.n384
      rw [if_neg (show ¬ mR b (some m) = -1 from nI_m1 (show 400 * b + m < 2 ^ 31 by omega)), show mR b (some m) = nI (400 * b + m) from rfl, wa_126 (by omega)] at pre
      refine ⟨_, ?_, pre⟩
      rw [m2]
      exact (S.2.1.1 m m1).1
  obtain ⟨ti, rk, pre⟩ := rt
  obtain ⟨s1, a1, a2, a3, a4⟩ := x_326 (d := d + 3) hn rk (n := st.length + 1) (by omega) q1
  obtain ⟨z, b1, b2', b3, b4, b5, b6⟩ := fit2 (d := d + 2) (k := 5000 * b + i) F.1 (oV.S (k := 0) (oT.V a2) S) (oQ.g a2 g) a2 q2 a3 a4 h60 (by omega) (b_335_417 (mjF (d + 5)) 97)
  obtain ⟨s3, h3, o3, t3, w3, g3⟩ := low2 hn b4
  have oo : oQ st.length s s3 := b2'.tr o3
  unfold b_335_383 at pre
  rw [xV_97, a1, bN_s, xg_97_82, xg_97_82, xV_97, b1] at pre
  unfold b_335_417 at pre
  rw [xg_97_82, b3, nI_p2, xp_97_82, ← h3, bN_s] at pre
  by_cases q : fitT E.1 E.2.1 e.1 E.2.2.2.2.2.1 = true
  · rw [if_pos q] at hj
    refine gJ.ok hj S pre oo.V (by show s3.1 97 61 = 0; rw [g3]; exact b5 q) ?_ ?_ (by rw [hr]; decide) (by rw [hr]; decide)
    · rw [hx]
      exact BR.mkT hn R oo t3 w3 (by omega) (by omega)
    · rw [oo.r (by omega), row.2.2.1, nA_o (by rw [hr]; decide) (by rw [hr]; decide) (by rw [hr]; decide) (by rw [hr]; decide) (by rw [hr]; decide) (by rw [hr]; decide)]
  · rw [if_neg q] at hj
    exact gJ.bad hj pre oo.V (by show ¬ s3.1 97 61 ≤ 0; rw [g3]; exact b6 q)
theorem j_17 (F : FX E.1 N b ks E.2.1 E.2.2.1) (S : BS E.1 N b ks E.2.1 E.2.2.1 s) (g : gR0 s) (R : BR E.2.1 b s j x Xe) (row : Rw s (5000 * b + i) r) (hi : i < 5000) (hr : r.1 = 17 ∨ r.1 = 18) (lo : 2 ≤ x.1.2.1) (ha : r.2.2.1 = nI x.2.2.1) (hlx : ¬ x.2.2.1 = i) (hl5 : x.2.2.1 < 5000) : gJ E N b ks i kq Xe r j x s (mjF (d + 7) 323 [.ref 97, .int (nI (5000 * b + i))] (mjW0 s)) := by
  have J := S.1.1
  have hn := J.2.2.2.2.2.1
  have hb := J.b1
  have h60 := R.1.2.2.2
  have hl := R.1.2.2.1
  obtain ⟨t2, t1, st, ej⟩ := lst2 (show 2 ≤ j.1.length by omega)
  have q1 := R.1.1
  have q2 := R.1.2.1
  rw [ej] at q1 q2 hl h60
  rw [List.length_cons, List.length_cons] at q1 hl h60
  have hj : ∃ l rs, jrow E r j = if fitT E.1 E.2.1 t2.1 t1.1 = true then some (jst j st rs, l) else none := by
    unfold jrow
    rcases hr with hr | hr
    · exact ⟨_, _, by rw [hr, if_neg (by decide), if_neg (by decide), if_neg (by decide), if_neg (by decide), if_neg (by decide), if_neg (by decide), if_neg (by decide), if_neg (by decide), if_neg (by decide), if_neg (by decide), if_neg (by decide), if_neg (by decide), if_neg (by decide), if_neg (by decide), if_neg (by decide), if_pos rfl, ej]⟩
    · exact ⟨_, _, by rw [hr, if_neg (by decide), if_neg (by decide), if_neg (by decide), if_neg (by decide), if_neg (by decide), if_neg (by decide), if_neg (by decide), if_neg (by decide), if_neg (by decide), if_neg (by decide), if_neg (by decide), if_neg (by decide), if_neg (by decide), if_neg (by decide), if_neg (by decide), if_neg (by decide), if_pos rfl, ej]⟩
  obtain ⟨l, rs, hj⟩ := hj
  have hx : ∃ q', nxW r i x = ((x.1.1, x.1.2.1 - 2, x.1.2.2.1, q'), x.2) := by
    unfold nxW
    rcases hr with hr | hr
    · exact ⟨_, by rw [hr, if_neg (by decide), if_neg (by decide), if_pos rfl]⟩
    · exact ⟨_, by rw [hr, if_neg (by decide), if_neg (by decide), if_neg (by decide), if_pos rfl]⟩
  obtain ⟨q', hx⟩ := hx
  have h7 : ¬ r.1 = 7 ∧ ¬ r.1 = 14 := by rcases hr with h | h <;> · rw [h]; decide
  have nA' : nA E r j = nI j.2.2.2.2.2.2.1 := by
    unfold nA
    rcases hr with hr | hr
    · rw [hr, if_neg (by decide), if_neg (by decide), if_pos (by decide)]
    · rw [hr, if_neg (by decide), if_neg (by decide), if_pos (by decide)]
  have pre : mjF (d + 7) 323 [.ref 97, .int (nI (5000 * b + i))] (mjW0 s) = bN (b_335_68 (mjF (d + 5)) 97 (nI (5000 * b + i)) (mjW0 s)) (fun hp1 => some (none, hp1)) := by
    rw [e_323]
    unfold f_323 b_323_0 b_323_517
    rcases hr with hr | hr
    · rw [xg_97_54, wa_143 (by omega), row.1, hr, if_neg (by decide), if_neg (by decide), if_neg (by decide), if_neg (by decide), if_neg (by decide), if_neg (by decide), if_neg (by decide), if_neg (by decide), if_neg (by decide), if_neg (by decide), if_neg (by decide), if_neg (by decide), if_neg (by decide), if_neg (by decide), if_pos rfl, xV_97, e_335]
      unfold f_335 b_335_0
      rw [xg_97_54, wa_143 (by omega), row.1, hr, if_pos rfl]
    · rw [xg_97_54, wa_143 (by omega), row.1, hr, if_neg (by decide), if_neg (by decide), if_neg (by decide), if_neg (by decide), if_neg (by decide), if_neg (by decide), if_neg (by decide), if_neg (by decide), if_neg (by decide), if_neg (by decide), if_neg (by decide), if_neg (by decide), if_neg (by decide), if_neg (by decide), if_neg (by decide), if_pos rfl, xV_97, e_335]
      unfold f_335 b_335_0
      rw [xg_97_54, wa_143 (by omega), row.1, hr, if_neg (by decide), if_pos rfl]
  obtain ⟨z, b1, b2', b3, b4, b5, b6, b7, b8⟩ := fitK (d := d + 2) (n := st.length) (p := st.length + 1) (q := st.length) (k := 5000 * b + i) F.1 S g (by omega) (by omega) q2.1 q2.2.1 (by omega) (b_335_99 (mjF (d + 5)) 97 (nI (5000 * b + i)))
  have b2q : oQ st.length s z := b2'
  unfold b_335_68 at pre
  rw [xg_97_82, xg_97_82, q1, show nI (st.length + 1 + 1) - 1 = nI (st.length + 1) from nI_pred _, show nI (st.length + 1 + 1) - 2 = nI st.length from nI_p2 _, xV_97, b1] at pre
  have zk : z.1 145 = s.1 145 := b2q.r (by omega)
  have z63 : z.1 97 63 = nI b := by rw [b2q.f (by omega)]; exact J.1.2
  have left := R.2.2.2.2
  obtain ⟨y, hy⟩ : ∃ y, y = uI z 145 (upd (z.1 145) (5000 * b + i) (nI j.2.2.2.2.2.2.1)) := ⟨_, rfl⟩
  have y1 : ∀ h, ¬ h = 145 → y.1 h = z.1 h := fun h e => by rw [hy]; exact uI_ne _ _ _ _ e
  have ty : TSs E.2.1 b y st := TSs.same hn q2.2.2 (by rw [y1 155 (by decide), b4]) (by rw [y1 156 (by decide), b5]) (by rw [y1 157 (by decide), b6])
  obtain ⟨s3, h3, o3, t3, w3, g3⟩ := low2 hn ty
  unfold b_335_99 at pre
  rw [xg_97_56, xg_97_56, xg_97_63, z63, xg_97_56, wa_145 (by omega), zk, row.2.2.1, ha, show (5000 : Int32) * nI b + nI x.2.2.1 = nI (5000 * b + x.2.2.1) by rw [show (5000 : Int32) = nI 5000 from rfl, nI_mul, nI_add], wa_145 (by omega), zk, left, ws_145 (by omega), ← hy, xg_97_82, y1 97 (by decide), b3, q1, show nI (st.length + 1 + 1) - 2 = nI st.length from nI_p2 _, xp_97_82, ← h3, bN_s] at pre
  have os : oQ st.length (uI s 145 (upd (s.1 145) (5000 * b + i) (nI j.2.2.2.2.2.2.1))) s3 := by
    refine offG.tr ?_ o3
    rw [hy]
    exact oQ.set b2q
  have ov : oV (5000 * b + i) s s3 := offG.tr oV.set os.V
  by_cases q : fitT E.1 E.2.1 t2.1 t1.1 = true
  · rw [if_pos q] at hj
    refine gJ.ok hj S pre ov (by show s3.1 97 61 = 0; rw [g3, y1 97 (by decide)]; exact b7 q) ?_ ?_ h7.1 h7.2
    · rw [hx]
      exact BR.mkT hn (BR.set R hlx hn) os t3 w3 (by omega) (by omega)
    · rw [o3.r (by omega), hy, uI_same, upd_g, if_pos rfl, nA']
  · rw [if_neg q] at hj
    exact gJ.bad hj pre ov (by show ¬ s3.1 97 61 ≤ 0; rw [g3, y1 97 (by decide)]; exact b8 q)
theorem j_20 (F : FX E.1 N b ks E.2.1 E.2.2.1) (S : BS E.1 N b ks E.2.1 E.2.2.1 s) (g : gR0 s) (R : BR E.2.1 b s j x Xe) (row : Rw s (5000 * b + i) r) (hi : i < 5000) (hr : r.1 = 20) (lo : 1 ≤ x.1.2.1) (pn : x.2.2.2.1 = true) (ha : r.2.2.1 = nI x.2.1) (dp2 : j.2.2.2.2.1 ≤ 30000) : gJ E N b ks i kq Xe r j x s (mjF (d + 7) 323 [.ref 97, .int (nI (5000 * b + i))] (mjW0 s)) := by
  have J := S.1.1
  have hn := J.2.2.2.2.2.1
  have hb := J.b1
  have h60 := R.1.2.2.2
  have hl := R.1.2.2.1
  obtain ⟨e, st, ej⟩ := lst1 (show 1 ≤ j.1.length by omega)
  have q1 := R.1.1
  have q2 := R.1.2.1
  rw [ej] at q1 q2 hl h60
  rw [List.length_cons] at q1 hl h60
  have htd := R.2.2.1.2
  have V := R.2.2.1.1
  rw [pn] at V
  obtain ⟨u1, u2, u3, u4, u5, u6, u7⟩ := V
  rw [if_pos rfl] at u4 u5 u6
  obtain ⟨w1, w2, w3, w4⟩ := u7 rfl
  have hj : jrow E r j = if fitT E.1 E.2.1 e.1 j.2.2.2.2.2.1.2 = true then some ((st, j.2.1, j.2.2.1 ++ [(j.2.2.2.2.2.1.1, j.2.2.2.2.2.1.2, j.2.2.2.1, j.2.2.2.2.1)], j.2.2.2.1 + 1, j.2.2.2.2.1, j.2.2.2.2.2.1, j.2.2.2.2.2.2.1, (jRS j).drop 1), [(2, nI j.2.2.2.1, -1)]) else none := by
    unfold jrow
    rw [hr, if_neg (by decide), if_neg (by decide), if_neg (by decide), if_neg (by decide), if_neg (by decide), if_neg (by decide), if_neg (by decide), if_neg (by decide), if_neg (by decide), if_neg (by decide), if_neg (by decide), if_neg (by decide), if_neg (by decide), if_neg (by decide), if_neg (by decide), if_neg (by decide), if_neg (by decide), if_neg (by decide), if_pos rfl, ej]
  have hx : nxW r i x = ((x.1.1, x.1.2.1 - 1, x.1.2.2.1, x.1.2.2.2 - 1), x.2.1 + 1, x.2.2.1, false, x.2.2.2.2) := by
    unfold nxW
    rw [hr, if_neg (by decide), if_neg (by decide), if_neg (by decide), if_neg (by decide), if_neg (by decide), if_pos rfl]
  have t16 : j.2.2.2.1 < 16 := by omega
  have v145 : s.1 145 (5000 * b + i) = nI j.2.2.2.1 := by rw [row.2.2.1, ha, htd]
  obtain ⟨s1, a1, a2, a3, a4⟩ := x_326 (d := d + 3) hn w2 (n := st.length + 1) (by omega) q1
  obtain ⟨z, b1, b2', b3, b4, b5, b6⟩ := fit2 (d := d + 2) (k := 5000 * b + i) F.1 (oV.S (k := 0) (oT.V a2) S) (oQ.g a2 g) a2 q2 a3 a4 h60 (by omega) (b_335_296 (mjF (d + 5)) 97 (nI (5000 * b + i)))
  obtain ⟨y, hy⟩ : ∃ y, y = uI z 161 (upd (z.1 161) j.2.2.2.1 (vp_nar .boolean 1)) := ⟨_, rfl⟩
  have y1 : ∀ h, ¬ h = 161 → y.1 h = z.1 h := fun h e => by rw [hy]; exact uI_ne _ _ _ _ e
  have ty : TSs E.2.1 b y st := TSs.same hn b4 (y1 _ (by decide)) (y1 _ (by decide)) (y1 _ (by decide))
  obtain ⟨s3, h3, o3, t3, w3', g3⟩ := low2 hn ty
  have pre : mjF (d + 7) 323 [.ref 97, .int (nI (5000 * b + i))] (mjW0 s) = some (none, mjW0 s3) := by
    rw [e_323]
    unfold f_323 b_323_0 b_323_517
    rw [xg_97_54, wa_143 (by omega), row.1, hr, if_neg (by decide), if_neg (by decide), if_neg (by decide), if_neg (by decide), if_neg (by decide), if_neg (by decide), if_neg (by decide), if_neg (by decide), if_neg (by decide), if_neg (by decide), if_neg (by decide), if_neg (by decide), if_neg (by decide), if_neg (by decide), if_neg (by decide), if_neg (by decide), if_neg (by decide), if_pos rfl, xV_97, e_335]
    unfold f_335 b_335_0
    rw [xg_97_54, wa_143 (by omega), row.1, hr, if_neg (by decide), if_neg (by decide), if_neg (by decide), if_pos rfl, xg_97_84, xg_97_56, wa_145 (by omega), v145, wa_159 t16, xV_97, a1, bN_s, xg_97_82, xg_97_82, xV_97, b1]
    unfold b_335_296
    rw [xg_97_86, xg_97_56, wa_145 (by omega), b2'.r (h := 145) (by omega), v145, ws_161 t16, ← hy, xg_97_82, y1 97 (by decide), b3, nI_p2, xp_97_82, ← h3, bN_s]
  have oz : oV (5000 * b + i) s z := b2'.V
  have ov : oV (5000 * b + i) s s3 := offG.tr oz (offG.tr (show oV (5000 * b + i) z y by rw [hy]; exact offG.w (Or.inr (Or.inr (Or.inr (Or.inl ⟨by omega, by omega⟩))))) o3.V)
  have r3 : ∀ h, ¬ (h = 97 ∨ (155 ≤ h ∧ h ≤ 157) ∨ h = 165 ∨ h = 166) → ¬ h = 161 → s3.1 h = s.1 h := fun h h1 h2 => by rw [o3.r h1, y1 h h2, b2'.r h1]
  have f3 : ∀ a, ¬ (a = 61 ∨ a = 62 ∨ a = 82 ∨ a = 95) → s3.1 97 a = s.1 97 a := fun a h1 => by rw [o3.f h1, y1 97 (by decide), b2'.f h1]
  have l3 : s3.2.1 = s.2.1 := by rw [o3.l, hy]; exact b2'.l
  have k3 : ∀ a, s3.1 161 a = if a = j.2.2.2.1 then 1 else s.1 161 a := fun a => by
    rw [o3.r (h := 161) (by omega), hy, uI_same, upd_g, b2'.r (h := 161) (by omega)]
    rfl
  by_cases q : fitT E.1 E.2.1 e.1 j.2.2.2.2.2.1.2 = true
  · rw [if_pos q] at hj
    refine gJ.ok hj S pre ov (by show s3.1 97 61 = 0; rw [g3, y1 97 (by decide)]; exact b5 q) ?_ ?_ (by rw [hr]; decide) (by rw [hr]; decide)
    · rw [hx]
      obtain ⟨_, ⟨c1, c2, c3⟩, _, ⟨d1, d2⟩, lf⟩ := R
      refine ⟨⟨w3', t3, by show st.length = x.1.2.1 - 1; omega, by show st.length ≤ 60; omega⟩, ⟨by rw [f3 92 (by omega)]; exact c1, PDs.same hn c2 (r3 _ (by omega) (by decide)) (r3 _ (by omega) (by decide)), c3⟩, ⟨?_, by show j.2.2.2.1 + 1 = x.2.1 + 1; rw [htd]⟩, ⟨by rw [f3 88 (by omega)]; exact d1, d2⟩, by rw [r3 145 (by omega) (by decide)]; exact lf⟩
      have kk : ∀ {ti : Int32} {ty : Nat}, TKr E.2.1 b s ti ty → TKr E.2.1 b s3 ti ty := fun h => h.cg (r3 138 (by omega) (by decide)) (r3 139 (by omega) (by decide)) (r3 142 (by omega) (by decide))
      refine ⟨fun f hf => ?_, fun a ha' => ?_, ?_, ?_, ?_, ?_, fun h => by cases h⟩
      · rcases List.mem_append.mp hf with hf | hf
        · obtain ⟨a1, a2, a3, a4, a5, a6⟩ := u1 f hf
          refine ⟨by show f.2.2.1 < j.2.2.2.1 + 1; omega, by rw [l3]; exact a2, by rw [r3 159 (by omega) (by decide)]; exact kk a3, by rw [r3 160 (by omega) (by decide)]; exact a4, ?_, a6⟩
          rw [k3, if_neg (by omega)]; exact a5
        · have ef : f = (j.2.2.2.2.2.1.1, j.2.2.2.2.2.1.2, j.2.2.2.1, j.2.2.2.2.1) := by simpa using hf
          subst ef
          refine ⟨by show j.2.2.2.1 < j.2.2.2.1 + 1; omega, by rw [l3]; exact w1, by rw [r3 159 (by omega) (by decide)]; exact kk w2, by rw [r3 160 (by omega) (by decide)]; exact w3, ?_, dp2⟩
          rw [k3, if_pos rfl]
      · by_cases e' : a = j.2.2.2.1
        · exact Or.inr ⟨_, List.mem_append_right _ (List.mem_singleton.mpr rfl), e'.symm⟩
        · rcases u2 a (by have : a < j.2.2.2.1 + 1 := ha'; omega) with h | ⟨f, hf, ef⟩
          · exact Or.inl (by rw [k3, if_neg e']; exact h)
          · exact Or.inr ⟨f, List.mem_append_left _ hf, ef⟩
      · rw [List.pairwise_append]
        refine ⟨u3, List.pairwise_singleton _ _, fun f hf f' hf' => ?_⟩
        have ef : f' = (j.2.2.2.2.2.1.1, j.2.2.2.2.2.1.2, j.2.2.2.1, j.2.2.2.2.1) := by simpa using hf'
        rw [ef]
        exact (u1 f hf).1
      · show ∀ v, v < j.2.2.2.1 + 1 + (if false = true then 1 else 0) → _
        rw [if_neg (show ¬ false = true by decide), Nat.add_zero, r3 159 (by omega) (by decide)]
        exact u4
      · show s3.1 97 87 = nI (j.2.2.2.1 + 1 + (if false = true then 1 else 0))
        rw [if_neg (show ¬ false = true by decide), Nat.add_zero, f3 87 (by omega)]
        exact u5
      · show j.2.2.2.1 + 1 + (if false = true then 1 else 0) ≤ 16
        rw [if_neg (show ¬ false = true by decide), Nat.add_zero]
        exact u6
    · rw [r3 145 (by omega) (by decide), row.2.2.1, nA_o (by rw [hr]; decide) (by rw [hr]; decide) (by rw [hr]; decide) (by rw [hr]; decide) (by rw [hr]; decide) (by rw [hr]; decide)]
  · rw [if_neg q] at hj
    exact gJ.bad hj pre ov (by show ¬ s3.1 97 61 ≤ 0; rw [g3, y1 97 (by decide)]; exact b6 q)
end MJB02
end
section
/-! ===== the reference judges one order: calls ===== -/
section MJB03
variable {T : TT} {d N b k t c n m v w p q kq Xe i : Nat} {ks : List Nat} {L : List CD} {s s' s'' s1 z : mjSt3} {tr : Bool} {E : EV} {j : JS} {x : WS} {r : Row} {u : mjU} {mm : Option Nat} {e : Nat × Bool} {st : List (Nat × Bool)}
/-- other TYPES wait, a call's values are counted otherwise -/
theorem BR.mkP (hn : HN T N L) (R : BR L b s j x Xe) (o : oQ n s s') {st : List (Nat × Bool)} (hst : TSs L b s' st) (h82 : s'.1 97 82 = nI st.length) {h' : Nat} (hl : st.length = h') (h60 : st.length ≤ 60) {rs : List Nat} {q' : Nat} {pe : List (Nat × Nat)} (hp : PDs L b s j.2.1 pe) : BR L b s' (st, j.2.1, j.2.2.1, j.2.2.2.1, j.2.2.2.2.1, j.2.2.2.2.2.1, j.2.2.2.2.2.2.1, rs) ((x.1.1, h', pe, q'), x.2) Xe := by
  obtain ⟨_, ⟨c1, c2, c3⟩, ⟨v1, v2⟩, ⟨d1, d2⟩, l⟩ := R
  exact ⟨⟨h82, hst, hl, h60⟩, ⟨by rw [o.f (by omega)]; exact c1, PDs.same hn hp (o.r (by omega)) (o.r (by omega)), c3⟩, ⟨v1.same (by rw [o.l]) (o.r (by omega)) (o.r (by omega)) (o.r (by omega)) (o.f (by omega)) (o.r (by omega)) (o.r (by omega)) (o.r (by omega)), v2⟩, ⟨by rw [o.f (by omega)]; exact d1, d2⟩, by rw [o.r (by omega)]; exact l⟩
theorem PDs_bump : ∀ {l e : List (Nat × Nat)}, PDs L b s l e → PDs L b s l (bump e)
  | [], [], h => h
  | [], _ :: _, h => h.elim
  | _ :: _, [], h => h.elim
  | _ :: _, _ :: _, h => h
theorem L333_S (R : mjR) (n a : Nat) (b e f : Int32) (hp : mjH) : L_333_14 R (n + 1) a b e f hp = b_333_14 R (L_333_14 R n) a b e f hp := rfl
theorem lq_333 (R : mjR) {l1 l2 : Int32} (h64 : p < 64) : ∀ (r i m : Nat) (s : mjSt3), i + r = 5 → r < m → s.1 97 92 = nI (p + 1) → (∀ x, x < i → s.1 165 x = s.1 163 (5 * p + x)) → ∃ s' m', L_333_14 R m 97 l1 l2 (nI i) (mjW0 s) = L_333_14 R (m' + 1) 97 l1 l2 5 (mjW0 s') ∧ oUp s s' ∧ s'.1 97 = s.1 97 ∧ ∀ x, x < 5 → s'.1 165 x = s.1 163 (5 * p + x)
  | r, i, 0, s, e, hr, h92, w => by omega
  | 0, i, m + 1, s, e, hr, h92, w => ⟨s, m, by rw [show nI i = 5 by rw [show i = 5 by omega]; rfl], offG.rf, rfl, fun x hx => w x (by omega)⟩
  | r + 1, i, m + 1, s, e, hr, h92, w => by
    obtain ⟨z, hz⟩ : ∃ z, z = uI s 165 (upd (s.1 165) i (s.1 163 (5 * p + i))) := ⟨_, rfl⟩
    have r1 : ∀ h, ¬ h = 165 → z.1 h = s.1 h := fun h e => by rw [hz]; exact uI_ne _ _ _ _ e
    obtain ⟨s', m', b1, b2', b3, b4⟩ := lq_333 R h64 r (i + 1) m z (by omega) (by omega) (by rw [r1 97 (by decide)]; exact h92) (fun x hx => by
      rw [r1 163 (by decide), hz, uI_same, upd_g]
      by_cases e' : x = i
      · rw [if_pos e', e']
      · rw [if_neg e']; exact w x (by omega))
    refine ⟨s', m', ?_, (show oUp s z by rw [hz]; exact offG.w (Or.inr (Or.inl rfl))).tr b2', by rw [b3, r1 97 (by decide)], fun x hx => by rw [b4 x hx, r1 163 (by decide)]⟩
    rw [← b1, L333_S]
    unfold b_333_14
    rw [if_neg (show ¬ (5 : Int32) ≤ nI i from nI_ge (b := 5) (by omega) (by decide)), xg_97_93, xg_97_90, xg_97_92, h92, nI_pred, i5m, wa_163 (by omega), ws_165 (by omega), ← hz, nI_1]
theorem L323b_S (R : mjR) (n a : Nat) (b : Int32) (hp : mjH) : L_323_388 R (n + 1) a b hp = b_323_388 R (L_323_388 R n) a b hp := rfl
theorem lq_323b (R : mjR) (h64 : p < 64) : ∀ (r i m : Nat) (s : mjSt3), i + r = 5 → r < m → s.1 97 92 = nI p → (∀ x, x < i → s.1 165 x = s.1 163 (5 * p + x)) → ∃ s' m', L_323_388 R m 97 (nI i) (mjW0 s) = L_323_388 R (m' + 1) 97 5 (mjW0 s') ∧ oUp s s' ∧ s'.1 97 = s.1 97 ∧ ∀ x, x < 5 → s'.1 165 x = s.1 163 (5 * p + x)
  | r, i, 0, s, e, hr, h92, w => by omega
  | 0, i, m + 1, s, e, hr, h92, w => ⟨s, m, by rw [show nI i = 5 by rw [show i = 5 by omega]; rfl], offG.rf, rfl, fun x hx => w x (by omega)⟩
  | r + 1, i, m + 1, s, e, hr, h92, w => by
    obtain ⟨z, hz⟩ : ∃ z, z = uI s 165 (upd (s.1 165) i (s.1 163 (5 * p + i))) := ⟨_, rfl⟩
    have r1 : ∀ h, ¬ h = 165 → z.1 h = s.1 h := fun h e => by rw [hz]; exact uI_ne _ _ _ _ e
    obtain ⟨s', m', b1, b2', b3, b4⟩ := lq_323b R h64 r (i + 1) m z (by omega) (by omega) (by rw [r1 97 (by decide)]; exact h92) (fun x hx => by
      rw [r1 163 (by decide), hz, uI_same, upd_g]
      by_cases e' : x = i
      · rw [if_pos e', e']
      · rw [if_neg e']; exact w x (by omega))
    refine ⟨s', m', ?_, (show oUp s z by rw [hz]; exact offG.w (Or.inr (Or.inl rfl))).tr b2', by rw [b3, r1 97 (by decide)], fun x hx => by rw [b4 x hx, r1 163 (by decide)]⟩
    rw [← b1, L323b_S]
    unfold b_323_388
    rw [if_neg (show ¬ (5 : Int32) ≤ nI i from nI_ge (b := 5) (by omega) (by decide)), xg_97_93, xg_97_90, xg_97_92, h92, i5m, wa_163 (by omega), ws_165 (by omega), ← hz, nI_1]
theorem ty_Nm (hn : HN T N L) (hm : hmM L m < L.length) : tyN L (hmM L m) (tyM T L m) := tyT_N hn hm
theorem j_12 (F : FX E.1 N b ks E.2.1 E.2.2.1) (S : BS E.1 N b ks E.2.1 E.2.2.1 s) (g : gR0 s) (R : BR E.2.1 b s j x Xe) (row : Rw s (5000 * b + i) r) (hi : i < 5000) (hr : r.1 = 12) (ok : okEr 60 20 120 r x.1) : gJ E N b ks i kq Xe r j x s (mjF (d + 7) 323 [.ref 97, .int (nI (5000 * b + i))] (mjW0 s)) := by
  have J := S.1.1
  have hn := J.2.2.2.2.2.1
  have hb := J.b1
  have h60 := R.1.2.2.2
  have hl := R.1.2.2.1
  have hmj := mjN_v
  obtain ⟨lo1, n, a, pl, lo2, lo3, lo4, lo5⟩ := ok.2.2.2.2.2.2.2.2.1 hr
  obtain ⟨e, st, ej⟩ := lst1 (show 1 ≤ j.1.length by omega)
  have q1 := R.1.1
  have q2 := R.1.2.1
  rw [ej] at q1 q2 hl h60
  rw [List.length_cons] at q1 hl h60
  obtain ⟨c1, c2, c3⟩ := R.2.1
  rw [lo2] at c2
  have pc : ∃ p pd, j.2.1 = p :: pd := by
    cases hp : j.2.1 with
    | nil => rw [hp] at c2; exact c2.elim
    | cons p pd => exact ⟨p, pd, rfl⟩
  obtain ⟨p, pd, ep⟩ := pc
  rw [ep] at c1 c2 c3
  rw [List.length_cons] at c1 c3
  obtain ⟨⟨p1, p2, p3, p4, p5, p6⟩, _⟩ := c2
  have hp6 : (psM E.2.1 p.1).length = n := p6
  have m384 := J.n384
  have n5 := (vK.n5 hn (p3.cl hn)).2
  have ap : a < (psM E.2.1 p.1).length := by omega
  have enN : r.2.2.1.toNatClampNeg = a := by
    rw [lo5]
    exact nN_nI (by omega)
  have hj : jrow E r j = if fitT E.1 E.2.1 e.1 (sty (nmL E.2.1) (pyT E.1 E.2.1 p.1 a) p.2) = true then some (jst j st (jRS j), []) else none := by
    unfold jrow
    rw [hr, if_neg (by decide), if_neg (by decide), if_neg (by decide), if_neg (by decide), if_neg (by decide), if_neg (by decide), if_neg (by decide), if_neg (by decide), if_neg (by decide), if_neg (by decide), if_neg (by decide), if_neg (by decide), if_pos rfl, ej, ep, enN]
  have hx : nxW r i x = ((x.1.1, x.1.2.1 - 1, bump x.1.2.2.1, x.1.2.2.2), x.2) := by
    rw [nxW_E ok.1]
    show (hxE r x.1, x.2) = _
    rw [hx_12 hr]
  obtain ⟨s1, m', b1, b2', b3, b4⟩ := lq_333 (p := pd.length) (mjF (d + 5)) (l1 := nI (5000 * b + i)) (l2 := nI (400 * b + p.1)) (by omega) 5 0 mjN s (by omega) (by omega) c1 (fun x hx => by omega)
  have S1 := oV.S (k := 0) (oUp.V b2') S
  have U1 : UPo E.2.1 s1 p.2 := fun y hy => by rw [b4 y (by omega)]; exact p5 y hy
  have K1 : TKr E.2.1 b s1 (s1.1 133 (6 * (400 * b + p.1) + a)) (pyT E.1 E.2.1 p.1 a) := (S1.2.1.1 p.1 p2).2 a ap
  obtain ⟨s2, d1, d2, d3, d4⟩ := x_332 (d := d + 2) hn K1 (n := st.length + 1) (v := p.2) (by omega) (by rw [b3]; exact q1) p3 U1 (by rw [p4]; exact py_N hn (J.mem p2).2)
  have q2s : TSs E.2.1 b s1 (e :: st) := TSs.same hn q2 (b2'.r (by decide) (by decide) (by decide)) (b2'.r (by decide) (by decide) (by decide)) (b2'.r (by decide) (by decide) (by decide))
  obtain ⟨z, f1, f2, f3, f4, f5, f6⟩ := fit2 (d := d + 2) (k := 5000 * b + i) F.1 (oV.S (k := 0) (oT.V d2) S1) (oQ.g d2 (oUp.g b2' g)) d2 q2s d3 d4 h60 (by omega) (b_333_97 (mjF (d + 5)) 97)
  obtain ⟨s3, h3, o3, t3, w3, g3⟩ := low2 hn f4
  have oo : oQ st.length s s3 := offG.tr (oUp.Q2 b2') (f2.tr o3)
  have pre : mjF (d + 7) 323 [.ref 97, .int (nI (5000 * b + i))] (mjW0 s) = some (none, mjW0 s3) := by
    rw [e_323]
    unfold f_323 b_323_0
    rw [xg_97_54, wa_143 (by omega), row.1, hr, if_neg (by decide), if_neg (by decide), if_neg (by decide), if_neg (by decide), if_neg (by decide), if_neg (by decide), if_neg (by decide), if_neg (by decide), if_neg (by decide), if_pos rfl, xV_97, e_333]
    unfold f_333 b_333_0
    rw [xg_97_89, xg_97_92, c1, nI_pred, wa_162 (by omega), p1, show (0 : Int32) = nI 0 from rfl, b1, L333_S]
    unfold b_333_14
    rw [if_pos (Int32.le_refl _), xg_97_44, xg_97_56, wa_145 (by omega), b2'.r (h := 145) (by decide) (by decide) (by decide), row.2.2.1, lo5, i6m, wa_133 (by omega), xV_97, d1, bN_s, xg_97_82, xg_97_82, xV_97, f1]
    unfold b_333_97
    rw [xg_97_82, f3, nI_p2, xp_97_82, ← h3, bN_s]
  by_cases q : fitT E.1 E.2.1 e.1 (sty (nmL E.2.1) (pyT E.1 E.2.1 p.1 a) p.2) = true
  · rw [if_pos q] at hj
    refine gJ.ok hj S pre oo.V (by show s3.1 97 61 = 0; rw [g3]; exact f5 q) ?_ ?_ (by rw [hr]; decide) (by rw [hr]; decide)
    · rw [hx]
      exact BR.mkP hn R oo t3 w3 (by omega) (by omega) (PDs_bump R.2.1.2.1)
    · rw [oo.r (by omega), row.2.2.1, nA_o (by rw [hr]; decide) (by rw [hr]; decide) (by rw [hr]; decide) (by rw [hr]; decide) (by rw [hr]; decide) (by rw [hr]; decide)]
  · rw [if_neg q] at hj
    exact gJ.bad hj pre oo.V (by show ¬ s3.1 97 61 ≤ 0; rw [g3]; exact f6 q)
theorem j_13 (S : BS E.1 N b ks E.2.1 E.2.2.1 s) (g : gR0 s) (R : BR E.2.1 b s j x Xe) (row : Rw s (5000 * b + i) r) (hi : i < 5000) (hr : r.1 = 13) (ok : okEr 60 20 120 r x.1) : gJ E N b ks i kq Xe r j x s (mjF (d + 7) 323 [.ref 97, .int (nI (5000 * b + i))] (mjW0 s)) := by
  have J := S.1.1
  have hn := J.2.2.2.2.2.1
  have hb := J.b1
  have h60 := R.1.2.2.2
  have hl := R.1.2.2.1
  have hmj := mjN_v
  obtain ⟨n, pl, lo2, lo3, lo4, lo5⟩ := ok.2.2.2.2.2.2.2.2.2 hr
  have h61 : x.1.2.1 + 1 ≤ 60 := by
    have := ok.2.2.1
    rw [hx_13 hr] at this
    exact this
  have q1 := R.1.1
  have q2 := R.1.2.1
  obtain ⟨c1, c2, c3⟩ := R.2.1
  rw [lo2] at c2
  have pc : ∃ p pd, j.2.1 = p :: pd := by
    cases hp : j.2.1 with
    | nil => rw [hp] at c2; exact c2.elim
    | cons p pd => exact ⟨p, pd, rfl⟩
  obtain ⟨p, pd, ep⟩ := pc
  rw [ep] at c1 c2 c3
  rw [List.length_cons] at c1 c3
  obtain ⟨⟨p1, p2, p3, p4, p5, p6⟩, p7⟩ := c2
  have m384 := J.n384
  have n5 := (vK.n5 hn (p3.cl hn)).2
  have hj : jrow E r j = some (((sty (nmL E.2.1) (tyM E.1 E.2.1 p.1) p.2, false) :: j.1, pd, j.2.2.1, j.2.2.2.1, j.2.2.2.2.1, j.2.2.2.2.2.1, j.2.2.2.2.2.2.1, sty (nmL E.2.1) (tyM E.1 E.2.1 p.1) p.2 :: (jRS j).drop ((psM E.2.1 p.1).length + 1)), [(13, nI p.1, r.2.1)]) := by
    unfold jrow
    rw [hr, if_neg (by decide), if_neg (by decide), if_neg (by decide), if_neg (by decide), if_neg (by decide), if_neg (by decide), if_neg (by decide), if_neg (by decide), if_neg (by decide), if_neg (by decide), if_neg (by decide), if_neg (by decide), if_neg (by decide), if_pos rfl, ep]
  have hx : nxW r i x = ((x.1.1, x.1.2.1 + 1, x.1.2.2.1.tail, x.1.2.2.2 - nN r.2.2.1), x.2) := by
    rw [nxW_E ok.1]
    show (hxE r x.1, x.2) = _
    rw [hx_13 hr]
  obtain ⟨y, hy⟩ : ∃ y, y = uI s 97 (upd (s.1 97) 92 (nI pd.length)) := ⟨_, rfl⟩
  have y1 : ∀ h, ¬ h = 97 → y.1 h = s.1 h := fun h e => by rw [hy]; exact uI_ne _ _ _ _ e
  have y2 : ∀ a, ¬ a = 92 → y.1 97 a = s.1 97 a := fun a e => by rw [hy, uI_same, upd_g, if_neg e]
  have y3 : y.1 97 92 = nI pd.length := by rw [hy, uI_same, upd_g, if_pos rfl]
  have oy : oV (5000 * b + i) s y := by rw [hy]; exact offG.w (Or.inl ⟨rfl, by omega⟩)
  obtain ⟨s1, m', b1, b2', b3, b4⟩ := lq_323b (p := pd.length) (mjF (d + 6)) (by omega) 5 0 mjN y (by omega) (by omega) y3 (fun x hx => by omega)
  have S1 := oV.S (k := 0) (oUp.V b2') (oy.S S)
  have U1 : UPo E.2.1 s1 p.2 := fun z hz => by rw [b4 z (by omega), y1 163 (by decide)]; exact p5 z hz
  have K1 : TKr E.2.1 b s1 (s1.1 126 (400 * b + p.1)) (tyM E.1 E.2.1 p.1) := (S1.2.1.1 p.1 p2).1
  obtain ⟨s2, d1, d2, d3, d4⟩ := x_332 (d := d + 3) hn K1 (n := j.1.length) (v := p.2) (by omega) (by rw [b3, y2 82 (by decide)]; exact q1) p3 U1 (by rw [p4]; exact ty_Nm hn (J.mem p2).2)
  have pre : mjF (d + 7) 323 [.ref 97, .int (nI (5000 * b + i))] (mjW0 s) = some (none, mjW0 s2) := by
    rw [e_323]
    unfold f_323 b_323_0
    rw [xg_97_54, wa_143 (by omega), row.1, hr, if_neg (by decide), if_neg (by decide), if_neg (by decide), if_neg (by decide), if_neg (by decide), if_neg (by decide), if_neg (by decide), if_neg (by decide), if_neg (by decide), if_neg (by decide), if_pos rfl, xg_97_92, c1, nI_pred, xp_97_92, ← hy, show (0 : Int32) = nI 0 from rfl, b1, L323b_S]
    unfold b_323_388
    rw [if_pos (Int32.le_refl _), xg_97_37, xg_97_89, xg_97_92, b3, y3, wa_162 (by omega), b2'.r (h := 162) (by decide) (by decide) (by decide), y1 162 (by decide), p1, wa_126 (by omega), xV_97, d1, bN_s]
  have ov : oV (5000 * b + i) s s2 := offG.tr oy (offG.tr (oUp.V b2') (oT.V d2))
  have oq : oQ j.1.length y s2 := offG.tr (oUp.Q2 b2') (d2.Q2 (Nat.le_refl _))
  refine gJ.ok hj S pre ov (oQ.g d2 (oUp.g b2' (by show y.1 97 61 = 0; rw [y2 61 (by decide)]; exact g))) ?_ ?_ (by rw [hr]; decide) (by rw [hr]; decide)
  · rw [hx]
    have ty : TSs E.2.1 b s1 j.1 := TSs.same hn q2 (by rw [b2'.r (by decide) (by decide) (by decide), y1 155 (by decide)]) (by rw [b2'.r (by decide) (by decide) (by decide), y1 156 (by decide)]) (by rw [b2'.r (by decide) (by decide) (by decide), y1 157 (by decide)])
    obtain ⟨_, _, ⟨v1, v2⟩, ⟨e1, e2⟩, lf⟩ := R
    refine ⟨⟨d4, ⟨d3, TSs.keepT hn ty d2 (Nat.le_refl _)⟩, by rw [List.length_cons, hl], by rw [List.length_cons]; omega⟩, ⟨by rw [oq.f (by omega)]; exact y3, ?_, by show pd.length ≤ 20; omega⟩, ⟨v1.same (by rw [oq.l, hy]; rfl) (by rw [oq.r (by omega), y1 159 (by decide)]) (by rw [oq.r (by omega), y1 160 (by decide)]) (by rw [oq.r (by omega), y1 161 (by decide)]) (by rw [oq.f (by omega), y2 87 (by decide)]) (by rw [oq.r (by omega), y1 138 (by decide)]) (by rw [oq.r (by omega), y1 139 (by decide)]) (by rw [oq.r (by omega), y1 142 (by decide)]), v2⟩, ⟨by rw [oq.f (by omega), y2 88 (by decide)]; exact e1, e2⟩, by rw [oq.r (by omega), y1 145 (by decide)]; exact lf⟩
    show PDs E.2.1 b s2 pd x.1.2.2.1.tail
    rw [lo2]
    exact PDs.same hn p7 (by rw [oq.r (by omega), y1 162 (by decide)]) (by rw [oq.r (by omega), y1 163 (by decide)])
  · rw [oq.r (by omega), y1 145 (by decide), row.2.2.1, nA_o (by rw [hr]; decide) (by rw [hr]; decide) (by rw [hr]; decide) (by rw [hr]; decide) (by rw [hr]; decide) (by rw [hr]; decide)]
end MJB03
end
section
/-! ===== the reference judges one order: FIELDS and METHODS that are asked for ===== -/
section MJB04
variable {T : TT} {d N b k t c n m v w q kq Xe i : Nat} {ks : List Nat} {L : List CD} {s s' s'' s1 z : mjSt3} {tr : Bool} {E : EV} {j : JS} {x : WS} {r : Row} {u : mjU} {mm : Option Nat} {e : Nat × Bool} {st : List (Nat × Bool)}
theorem PDs_len : ∀ {l e : List (Nat × Nat)}, PDs L b s l e → l.length = e.length
  | [], [], _ => rfl
  | [], _ :: _, h => h.elim
  | _ :: _, [], h => h.elim
  | _ :: l, _ :: e, h => by rw [List.length_cons, List.length_cons, PDs_len h.2]
theorem tyC_neg (hn : HN T N L) (hb : b ≤ 1) {p : Nat} (h : TO1 L s p t) : (0 : Int32) ≤ tyC b t ↔ ∃ k, t = k + 2 := by
  match t, h with
  | 0, _ => exact ⟨fun x => absurd (show (0 : Int32) ≤ -1 from x) (by decide), fun ⟨k, e⟩ => by omega⟩
  | 1, _ => exact ⟨fun x => absurd (show (0 : Int32) ≤ -2 from x) (by decide), fun ⟨k, e⟩ => by omega⟩
  | k + 2, ⟨v, _⟩ =>
    have := v.cl hn
    have := hn.1
    exact ⟨fun _ => ⟨k, rfl⟩, fun _ => nI_pos' (by omega)⟩
/-- judgePart, up to the MEMBER -/
theorem x_328 (F : FX E.1 N b ks E.2.1 E.2.2.1) (S : BS E.1 N b ks E.2.1 E.2.2.1 s) (g : gR0 s) (q1 : s.1 97 82 = nI (st.length + 1)) (q2 : TSs E.2.1 b s (e :: st)) (h60 : st.length + 1 ≤ 60) (row : Rw s (5000 * b + i) r) (hi : i < 5000) (isM : Bool) (hM : isM = decide (r.1 = 11)) (K : mjH → mjU) : ∃ s2, oQ st.length s s2 ∧ match prtE E e r.2.2.2.2 isM with
    | none => bR0 s2 ∧ bN (mjF (d + 6) 328 [.ref 97, .int (nI (5000 * b + i))] (mjW0 s)) K = K (mjW0 s2)
    | some p => gR0 s2 ∧ bN (mjF (d + 6) 328 [.ref 97, .int (nI (5000 * b + i))] (mjW0 s)) K = bN (b_328_136 (mjF (d + 5)) 97 (nI (5000 * b + i)) (nI (400 * b + p.1)) (mjW0 s2)) K ∧ s2.1 97 82 = nI st.length ∧ TSs E.2.1 b s2 st ∧ UPo E.2.1 s2 p.2 ∧ p.1 < nMem E.2.1 ∧ vK E.2.1 p.2 ∧ cK p.2 = hmM E.2.1 p.1 := by
  have J := S.1.1
  have hn := J.2.2.2.2.2.1
  have hb := J.b1
  have m384 := J.n384
  obtain ⟨y, hy⟩ : ∃ y, y = uI s 97 (upd (s.1 97) 82 (nI st.length)) := ⟨_, rfl⟩
  have y1 : ∀ h, ¬ h = 97 → y.1 h = s.1 h := fun h e => by rw [hy]; exact uI_ne _ _ _ _ e
  have y2 : ∀ a, ¬ a = 82 → y.1 97 a = s.1 97 a := fun a e => by rw [hy, uI_same, upd_g, if_neg e]
  have y3 : y.1 97 82 = nI st.length := by rw [hy, uI_same, upd_g, if_pos rfl]
  have oy : oQ st.length s y := by rw [hy]; exact oQ.w82
  have Sy : BS E.1 N b ks E.2.1 E.2.2.1 y := oV.S (k := 0) oy.V S
  have gy : gR0 y := by show y.1 97 61 = 0; rw [y2 61 (by decide)]; exact g
  have Yy : TY1 E.2.1 b y st.length e.1 e.2 := q2.1.cg hn (by rw [y1 155 (by decide)]) (by rw [y1 156 (by decide)]) (fun a _ => by rw [y1 157 (by decide)])
  have rowy : y.1 143 (5000 * b + i) = r.1 ∧ y.1 144 (5000 * b + i) = r.2.1 ∧ y.2.1 147 (5000 * b + i) = r.2.2.2.2 := ⟨by rw [y1 143 (by decide)]; exact row.1, by rw [y1 144 (by decide)]; exact row.2.1, by rw [oy.l]; exact row.2.2.2.2⟩
  have pre : mjF (d + 6) 328 [.ref 97, .int (nI (5000 * b + i))] (mjW0 s) = b_328_28 (mjF (d + 5)) 97 (nI (5000 * b + i)) (b2 e.2) (mjW0 y) := by
    rw [e_328]
    unfold f_328 b_328_0
    rw [xg_97_82, q1, nI_pred, xp_97_82, ← hy, xg_97_80, xg_97_82, y3, wa_156 (by omega), Yy.2.1]
    cases e.2 with
    | true => rw [if_pos (by decide)]; rfl
    | false => rw [if_neg (by decide)]; rfl
  rw [pre]
  unfold b_328_28
  rw [xg_97_79, xg_97_82, y3, wa_155 (by omega), Yy.1]
  have tn := tyC_neg hn hb Yy.2.2
  by_cases hk : ∃ k, e.1 = k + 2
  · obtain ⟨k, ek⟩ := hk
    rw [if_pos (tn.mpr ⟨k, ek⟩)]
    have Yk : TY1 E.2.1 b y st.length (k + 2) e.2 := by rw [← ek]; exact Yy
    obtain ⟨s1, a1, a2, a3⟩ := x_329 (d := d + 4) hn (show st.length < 200 by omega) Yk
    have S1 := oV.S (k := 0) (oUp.V a2) Sy
    obtain ⟨s2, b1, b2', b3⟩ := x_316m (d := d + 2) (key := r.2.2.2.2) F.1 S1.1.1 S1.2.1.2 (fun m hm => (F.2.2.2.1 m hm).2.1) Yk.2.2.1 a3 isM
    have S2 := oV.S (k := 0) (oUp.V b2') S1
    have o2 : oQ st.length s s2 := offG.tr oy (offG.tr (oUp.Q2 a2) (oUp.Q2 b2'))
    have g2 : gR0 s2 := oUp.g b2' (oUp.g a2 gy)
    have pre2 : gI (mjW0 y) 97 12 82 (fun v4 => rV (mjW0 y) 97 12 (bN (mjF (d + 5) 329 [.ref 97, .int v4] (mjW0 y)) (fun hp5 => gR hp5 97 12 58 (fun v6 => aL hp5 v6 (nI (5000 * b + i)) (fun v7 => gR hp5 97 12 54 (fun v8 => aI hp5 v8 (nI (5000 * b + i)) (fun v9 => (if v9 = 11 then b_328_85 (mjF (d + 5)) 97 (nI (5000 * b + i)) (b2 e.2) 97 v7 1 hp5 else b_328_85 (mjF (d + 5)) 97 (nI (5000 * b + i)) (b2 e.2) 97 v7 0 hp5)))))))) = b_328_85 (mjF (d + 5)) 97 (nI (5000 * b + i)) (b2 e.2) 97 r.2.2.2.2 (b2 isM) (mjW0 s1) := by
      rw [xg_97_82, y3, xV_97, a1, bN_s, xg_97_58, wa_147 (by omega), show s1.2.1 147 = y.2.1 147 by rw [a2.l], rowy.2.2, xg_97_54, wa_143 (by omega), a2.r (h := 143) (by decide) (by decide) (by decide), rowy.1, hM]
      by_cases q : r.1 = 11
      · rw [if_pos q, decide_eq_true q]; rfl
      · rw [if_neg q, decide_eq_false q]; rfl
    rw [pre2]
    unfold b_328_85
    rw [xV_97, b1, bI_s]
    have s2row : s2.1 144 (5000 * b + i) = r.2.1 := by rw [o2.r (h := 144) (by omega)]; exact row.2.1
    have failK : ∀ (cd : Int32) (l3 : Int32), ¬ cd ≤ 0 → ∃ s3, oQ st.length s s3 ∧ bR0 s3 ∧ bN (gR (mjW0 s2) 97 12 55 (fun v8 => aI (mjW0 s2) v8 (nI (5000 * b + i)) (fun v9 => rV (mjW0 s2) 97 12 (bN (mjF (d + 5) 268 [.ref 97, .int cd, .int v9] (mjW0 s2)) (fun hp10 => b_328_174 (mjF (d + 5)) 97 (nI (5000 * b + i)) l3 hp10))))) K = K (mjW0 s3) := by
      intro cd l3 hcd
      obtain ⟨s3, c1, c2, c3⟩ := x_268 (d := d + 4) (s := s2) (Or.inl g2) (a := cd) hcd r.2.1
      refine ⟨s3, offG.tr o2 (o61.Q2 c2), c3, ?_⟩
      rw [xg_97_55, wa_144 (by omega), s2row, xV_97, c1, bN_s]
      unfold b_328_174
      rw [xg_97_61, if_neg c3, bN_s]
    have ep : prtE E e r.2.2.2.2 isM = match memT E.1 E.2.1 (cK k) r.2.2.2.2 isM with
      | some m => if (!e.2 && hidM E.1 E.2.1 m) = true then none else some (m, seenT E.1 E.2.1 k m)
      | none => none := by
      unfold prtE
      rw [ek]
      dsimp only
      cases memT E.1 E.2.1 (cK k) r.2.2.2.2 isM <;> rfl
    rw [ep]
    cases hmem : memT E.1 E.2.1 (cK k) r.2.2.2.2 isM with
    | none =>
      obtain ⟨s3, d1, d2, d3⟩ := failK 5 (-1) (by decide)
      refine ⟨s3, d1, d2, ?_⟩
      rw [if_pos (show mR b none = -1 from rfl)]
      exact d3
    | some m =>
      obtain ⟨m1, m2, m3, m4, m5⟩ := b3 m hmem
      have good : ∃ s2', oQ st.length s s2' ∧ gR0 s2' ∧ bN (b_328_136 (mjF (d + 5)) 97 (nI (5000 * b + i)) (nI (400 * b + m)) (mjW0 s2)) K = bN (b_328_136 (mjF (d + 5)) 97 (nI (5000 * b + i)) (nI (400 * b + m)) (mjW0 s2')) K ∧ s2'.1 97 82 = nI st.length ∧ TSs E.2.1 b s2' st ∧ UPo E.2.1 s2' (seenT E.1 E.2.1 k m) ∧ m < nMem E.2.1 ∧ vK E.2.1 (seenT E.1 E.2.1 k m) ∧ cK (seenT E.1 E.2.1 k m) = hmM E.2.1 m := ⟨s2, o2, g2, rfl, by rw [b2'.f (by decide), a2.f (by decide)]; exact y3, TSs.keepQ hn q2.2 o2 (Nat.le_refl _), m3.2, m1, m4, m5⟩
      rw [if_neg (show ¬ mR b (some m) = -1 from nI_m1 (show 400 * b + m < 2 ^ 31 by omega)), show mR b (some m) = nI (400 * b + m) from rfl]
      dsimp only
      cases e2 : e.2 with
      | true =>
        rw [if_neg (show ¬ b2 true = 0 by decide), if_neg (show ¬ (!true && hidM E.1 E.2.1 m) = true by simp)]
        obtain ⟨s2', h1, h2, h3, h4, h5, h6, h7, h8, h9⟩ := good
        exact ⟨s2', h1, h2, h3, h4, h5, h6, h7, h8, h9⟩
      | false =>
        rw [if_pos (show b2 false = 0 from rfl), xV_97, x_330 (d := d + 3) S2.1.1 F.2.1 F.2.2.1 m1 (F.2.2.2.1 m m1), bI_s]
        cases hh : hidM E.1 E.2.1 m with
        | true =>
          obtain ⟨s3, d1, d2, d3⟩ := failK 10 (nI (400 * b + m)) (by decide)
          rw [if_neg (show ¬ b2 true = 0 by decide), if_pos (show (!false && true) = true from rfl)]
          exact ⟨s3, d1, d2, d3⟩
        | false =>
          rw [if_pos (show b2 false = 0 from rfl), if_neg (show ¬ (!false && false) = true by decide)]
          obtain ⟨s2', h1, h2, h3, h4, h5, h6, h7, h8, h9⟩ := good
          exact ⟨s2', h1, h2, h3, h4, h5, h6, h7, h8, h9⟩
  · rw [if_neg (fun h => hk (tn.mp h))]
    obtain ⟨s3, c1, c2, c3⟩ := x_268 (d := d + 4) (s := y) (Or.inl gy) (a := 7) (by decide) r.2.1
    refine ⟨s3, offG.tr oy (o61.Q2 c2), ?_⟩
    have ep : prtE E e r.2.2.2.2 isM = none := by
      unfold prtE
      match he : e.1, hk with
      | 0, _ => rfl
      | 1, _ => rfl
      | k + 2, hk => exact absurd ⟨k, rfl⟩ hk
    rw [ep]
    refine ⟨c3, ?_⟩
    rw [xg_97_55, wa_144 (by omega), rowy.2.1, xV_97, c1, bN_s, bN_s]
theorem j_10 (F : FX E.1 N b ks E.2.1 E.2.2.1) (S : BS E.1 N b ks E.2.1 E.2.2.1 s) (g : gR0 s) (R : BR E.2.1 b s j x Xe) (row : Rw s (5000 * b + i) r) (hi : i < 5000) (hr : r.1 = 10 ∨ r.1 = 16) (lo : 1 ≤ x.1.2.1) (hlx : ¬ x.2.2.1 = i) : gJ E N b ks i kq Xe r j x s (mjF (d + 7) 323 [.ref 97, .int (nI (5000 * b + i))] (mjW0 s)) := by
  have J := S.1.1
  have hn := J.2.2.2.2.2.1
  have hb := J.b1
  have h60 := R.1.2.2.2
  have hl := R.1.2.2.1
  obtain ⟨e, st, ej⟩ := lst1 (show 1 ≤ j.1.length by omega)
  have q1 := R.1.1
  have q2 := R.1.2.1
  rw [ej] at q1 q2 hl h60
  rw [List.length_cons] at q1 hl h60
  have m384 := J.n384
  have n11 : ¬ r.1 = 11 := by rcases hr with h | h <;> · rw [h]; decide
  have h7 : ¬ r.1 = 7 ∧ ¬ r.1 = 14 := by rcases hr with h | h <;> · rw [h]; decide
  obtain ⟨s2, o2, M⟩ := x_328 (d := d) (i := i) F S g q1 q2 h60 row hi false (by rw [decide_eq_false n11]) (fun hp1 => some (none, hp1))
  have pre : mjF (d + 7) 323 [.ref 97, .int (nI (5000 * b + i))] (mjW0 s) = bN (mjF (d + 6) 328 [.ref 97, .int (nI (5000 * b + i))] (mjW0 s)) (fun hp1 => some (none, hp1)) := by
    rw [e_323]
    unfold f_323 b_323_0 b_323_360
    rcases hr with hr | hr
    · rw [xg_97_54, wa_143 (by omega), row.1, hr, if_neg (by decide), if_neg (by decide), if_neg (by decide), if_neg (by decide), if_neg (by decide), if_neg (by decide), if_neg (by decide), if_pos rfl, xV_97]
    · rw [xg_97_54, wa_143 (by omega), row.1, hr, if_neg (by decide), if_neg (by decide), if_neg (by decide), if_neg (by decide), if_neg (by decide), if_neg (by decide), if_neg (by decide), if_neg (by decide), if_neg (by decide), if_neg (by decide), if_neg (by decide), if_neg (by decide), if_neg (by decide), if_pos rfl, xV_97]
  cases hp : prtE E e r.2.2.2.2 false with
  | none =>
    rw [hp] at M
    have hj : jrow E r j = none := by
      unfold jrow
      rcases hr with hr | hr
      · rw [hr, if_neg (by decide), if_neg (by decide), if_neg (by decide), if_neg (by decide), if_neg (by decide), if_neg (by decide), if_neg (by decide), if_neg (by decide), if_neg (by decide), if_pos rfl, ej]; dsimp only; rw [hp]
      · rw [hr, if_neg (by decide), if_neg (by decide), if_neg (by decide), if_neg (by decide), if_neg (by decide), if_neg (by decide), if_neg (by decide), if_neg (by decide), if_neg (by decide), if_neg (by decide), if_pos rfl, ej]; dsimp only; rw [hp]
    exact gJ.bad hj (pre.trans M.2) o2.V M.1
  | some p =>
    rw [hp] at M
    obtain ⟨g2, e2, f82, t2, U2, p1, p2, p3⟩ := M
    have S2 := oV.S (k := 0) o2.V S
    obtain ⟨y, hy⟩ : ∃ y, y = uI s2 145 (upd (s2.1 145) (5000 * b + i) (nI (numM E.1 E.2.1 p.1))) := ⟨_, rfl⟩
    have y1 : ∀ h, ¬ h = 145 → y.1 h = s2.1 h := fun h e => by rw [hy]; exact uI_ne _ _ _ _ e
    have Sy : BS E.1 N b ks E.2.1 E.2.2.1 y := oV.S (k := 5000 * b + i) (by rw [hy]; exact oV.set) S2
    obtain ⟨s3, d1, d2, d3, d4⟩ := x_332 (d := d + 2) (s := y) hn (Sy.2.1.1 p.1 p1).1 (n := st.length) (v := p.2) (by omega) (by rw [y1 97 (by decide)]; exact f82) p2 (fun a ha => by rw [y1 165 (by decide)]; exact U2 a ha) (by rw [p3]; exact ty_Nm hn (J.mem p1).2)
    have r2 : s2.1 143 (5000 * b + i) = r.1 := by rw [o2.r (by omega)]; exact row.1
    have fin : mjF (d + 7) 323 [.ref 97, .int (nI (5000 * b + i))] (mjW0 s) = some (none, mjW0 s3) := by
      rw [pre, e2]
      unfold b_328_136
      rw [xg_97_54, wa_143 (by omega), r2, if_neg n11]
      unfold b_328_174
      rw [xg_97_61, if_pos (show s2.1 97 61 ≤ 0 by rw [show s2.1 97 61 = 0 from g2]; exact Int32.le_refl _), xg_97_54, wa_143 (by omega), r2, if_neg n11, xg_97_56, xg_97_41, wa_130 (by omega), S2.2.2.2.1 p.1 p1, ws_145 (by omega), ← hy, xg_97_37, wa_126 (by omega), xV_97, d1, bN_s, bN_s]
    have os : oQ st.length (uI s 145 (upd (s.1 145) (5000 * b + i) (nI (numM E.1 E.2.1 p.1)))) s3 := by
      refine offG.tr ?_ (d2.Q2 (Nat.le_refl _))
      rw [hy]
      exact oQ.set o2
    have ov : oV (5000 * b + i) s s3 := offG.tr oV.set os.V
    have z5 : s3.1 145 (5000 * b + i) = nI (numM E.1 E.2.1 p.1) := by rw [d2.r (by omega), hy, uI_same, upd_g, if_pos rfl]
    have g3 : gR0 s3 := oQ.g d2 (by show y.1 97 61 = 0; rw [y1 97 (by decide)]; exact g2)
    have ts : TSs E.2.1 b s3 ((sty (nmL E.2.1) (tyM E.1 E.2.1 p.1) p.2, false) :: st) := ⟨d3, TSs.keepT hn (TSs.same hn t2 (y1 _ (by decide)) (y1 _ (by decide)) (y1 _ (by decide))) d2 (Nat.le_refl _)⟩
    have nA' : nA E r j = nI (numM E.1 E.2.1 p.1) := by
      unfold nA
      rw [if_neg (by rcases hr with h | h <;> · rw [h]; decide), if_pos hr, ej]
      dsimp only
      rw [hp]
    rcases hr with hr | hr
    · have hj : jrow E r j = some (jst j ((sty (nmL E.2.1) (tyM E.1 E.2.1 p.1) p.2, false) :: st) (sty (nmL E.2.1) (tyM E.1 E.2.1 p.1) p.2 :: (jRS j).drop 1), [(12, nI (numM E.1 E.2.1 p.1), r.2.1)]) := by
        unfold jrow
        rw [hr, if_neg (by decide), if_neg (by decide), if_neg (by decide), if_neg (by decide), if_neg (by decide), if_neg (by decide), if_neg (by decide), if_neg (by decide), if_neg (by decide), if_pos rfl, ej]; dsimp only; rw [hp]
      have hx : nxW r i x = ((x.1.1, x.1.2.1, x.1.2.2.1, x.1.2.2.2), x.2) := by
        unfold nxW
        rw [hr, if_neg (by decide), if_neg (by decide), if_neg (by decide), if_neg (by decide), if_neg (by decide), if_neg (by decide), if_neg (by decide), if_neg (by decide), if_neg (by decide), if_neg (by decide)]
        unfold hxE
        rw [hr, if_neg (by decide), if_neg (by decide), if_neg (by decide), if_neg (by decide), if_neg (by decide), if_neg (by decide), if_neg (by decide)]
      refine gJ.ok hj S fin ov g3 ?_ (by rw [z5, nA']) h7.1 h7.2
      rw [hx]
      exact BR.mkT hn (BR.set R hlx hn) os ts d4 (by rw [List.length_cons, hl]) (by rw [List.length_cons]; exact h60)
    · have hj : jrow E r j = some (((sty (nmL E.2.1) (tyM E.1 E.2.1 p.1) p.2, false) :: st, j.2.1, j.2.2.1, j.2.2.2.1, j.2.2.2.2.1, j.2.2.2.2.2.1, numM E.1 E.2.1 p.1, jRS j), []) := by
        unfold jrow
        rw [hr, if_neg (by decide), if_neg (by decide), if_neg (by decide), if_neg (by decide), if_neg (by decide), if_neg (by decide), if_neg (by decide), if_neg (by decide), if_neg (by decide), if_neg (by decide), if_pos rfl, ej]; dsimp only; rw [hp]
      have hx : nxW r i x = ((x.1.1, x.1.2.1, x.1.2.2.1, x.1.2.2.2), x.2.1, i, x.2.2.2) := by
        unfold nxW
        rw [hr, if_neg (by decide), if_pos rfl]
      refine gJ.ok hj S fin ov g3 ?_ (by rw [z5, nA']) h7.1 h7.2
      rw [hx]
      exact BR.mkL hn (BR.set R hlx hn) os ts d4 (by rw [List.length_cons, hl]) (by rw [List.length_cons]; exact h60) z5
theorem L328_S (R : mjR) (n a : Nat) (b : Int32) (hp : mjH) : L_328_206 R (n + 1) a b hp = b_328_206 R (L_328_206 R n) a b hp := rfl
theorem lq_328 (R : mjR) {p : Nat} (h64 : p < 64) : ∀ (r i m : Nat) (s : mjSt3), i + r = 5 → r < m → s.1 97 92 = nI p → (∀ x, x < i → s.1 163 (5 * p + x) = s.1 165 x) → ∃ s', L_328_206 R m 97 (nI i) (mjW0 s) = some (none, mjW0 s') ∧ (∀ h, ¬ h = 97 → ¬ h = 163 → s'.1 h = s.1 h) ∧ (∀ y, ¬ y = 92 → s'.1 97 y = s.1 97 y) ∧ (∀ y, ¬ (5 * p ≤ y ∧ y < 5 * p + 5) → s'.1 163 y = s.1 163 y) ∧ s'.2 = s.2 ∧ s'.1 97 92 = nI (p + 1) ∧ ∀ x, x < 5 → s'.1 163 (5 * p + x) = s.1 165 x
  | r, i, 0, s, e, hr, h92, w => by omega
  | 0, i, m + 1, s, e, hr, h92, w => by
    refine ⟨uI s 97 (upd (s.1 97) 92 (nI (p + 1))), ?_, fun h h1 _ => uI_ne _ _ _ _ h1, fun y hy => by rw [uI_same, upd_g, if_neg hy], fun y _ => by rw [uI_ne _ _ _ _ (by decide)], rfl, by rw [uI_same, upd_g, if_pos rfl], fun x hx => by rw [uI_ne _ _ _ _ (by decide)]; exact w x (by omega)⟩
    rw [L328_S]
    unfold b_328_206
    rw [if_pos (show (5 : Int32) ≤ nI i from nI_le (a := 5) (by omega) (by omega)), xg_97_92, h92, nI_1, xp_97_92]
  | r + 1, i, m + 1, s, e, hr, h92, w => by
    obtain ⟨z, hz⟩ : ∃ z, z = uI s 163 (upd (s.1 163) (5 * p + i) (s.1 165 i)) := ⟨_, rfl⟩
    have r1 : ∀ h, ¬ h = 163 → z.1 h = s.1 h := fun h e => by rw [hz]; exact uI_ne _ _ _ _ e
    obtain ⟨s', b1, b2', b3, b4, b5, b6, b7⟩ := lq_328 R h64 r (i + 1) m z (by omega) (by omega) (by rw [r1 97 (by decide)]; exact h92) (fun x hx => by
      rw [r1 165 (by decide), hz, uI_same, upd_g]
      by_cases e' : x = i
      · rw [if_pos (by rw [e']), e']
      · rw [if_neg (by omega)]; exact w x (by omega))
    refine ⟨s', ?_, fun h h1 h2 => by rw [b2' h h1 h2, r1 h h2], fun y hy => by rw [b3 y hy, r1 97 (by decide)], fun y hy => ?_, by rw [b5, hz]; rfl, b6, fun x hx => by rw [b7 x hx, r1 165 (by decide)]⟩
    · rw [← b1, L328_S]
      unfold b_328_206
      rw [if_neg (show ¬ (5 : Int32) ≤ nI i from nI_ge (b := 5) (by omega) (by decide)), xg_97_90, xg_97_92, h92, xg_97_93, wa_165 (by omega), i5m, ws_163 (by omega), ← hz, nI_1]
    · rw [b4 y hy, hz, uI_same, upd_g, if_neg (by omega)]
theorem j_11 (F : FX E.1 N b ks E.2.1 E.2.2.1) (S : BS E.1 N b ks E.2.1 E.2.2.1 s) (g : gR0 s) (R : BR E.2.1 b s j x Xe) (row : Rw s (5000 * b + i) r) (hi : i < 5000) (hr : r.1 = 11) (ok : okEr 60 20 120 r x.1) : gJ E N b ks i kq Xe r j x s (mjF (d + 7) 323 [.ref 97, .int (nI (5000 * b + i))] (mjW0 s)) := by
  have J := S.1.1
  have hn := J.2.2.2.2.2.1
  have hb := J.b1
  have h60 := R.1.2.2.2
  have hl := R.1.2.2.1
  have hmj := mjN_v
  have lo := ok.2.2.2.2.2.2.1 (Or.inr (Or.inr (Or.inr (Or.inr hr))))
  have c20 : x.1.2.2.1.length + 1 ≤ 20 := by
    have := ok.2.2.2.1
    rw [hx_11 hr] at this
    exact this
  obtain ⟨e, st, ej⟩ := lst1 (show 1 ≤ j.1.length by omega)
  have q1 := R.1.1
  have q2 := R.1.2.1
  rw [ej] at q1 q2 hl h60
  rw [List.length_cons] at q1 hl h60
  have m384 := J.n384
  obtain ⟨k1, k2, k3⟩ := R.2.1
  have kl := PDs_len k2
  obtain ⟨s2, o2, M⟩ := x_328 (d := d) (i := i) F S g q1 q2 h60 row hi true (by rw [decide_eq_true hr]) (fun hp1 => some (none, hp1))
  have pre : mjF (d + 7) 323 [.ref 97, .int (nI (5000 * b + i))] (mjW0 s) = bN (mjF (d + 6) 328 [.ref 97, .int (nI (5000 * b + i))] (mjW0 s)) (fun hp1 => some (none, hp1)) := by
    rw [e_323]
    unfold f_323 b_323_0 b_323_360
    rw [xg_97_54, wa_143 (by omega), row.1, hr, if_neg (by decide), if_neg (by decide), if_neg (by decide), if_neg (by decide), if_neg (by decide), if_neg (by decide), if_neg (by decide), if_neg (by decide), if_pos rfl, xV_97]
  cases hp : prtE E e r.2.2.2.2 true with
  | none =>
    rw [hp] at M
    have hj : jrow E r j = none := by
      unfold jrow
      rw [hr, if_neg (by decide), if_neg (by decide), if_neg (by decide), if_neg (by decide), if_neg (by decide), if_neg (by decide), if_neg (by decide), if_neg (by decide), if_neg (by decide), if_neg (by decide), if_neg (by decide), if_pos rfl, ej]; dsimp only; rw [hp]
    exact gJ.bad hj (pre.trans M.2) o2.V M.1
  | some p =>
    rw [hp] at M
    obtain ⟨g2, e2, f82, t2, U2, p1, p2, p3⟩ := M
    have S2 := oV.S (k := 0) o2.V S
    have J2 := S2.1.1
    have n5 := (vK.n5 hn (p2.cl hn)).2
    have p6 := J2.p6 p1
    have hj : jrow E r j = if nI (psM E.2.1 p.1).length = r.2.2.2.1 then some ((st, p :: j.2.1, j.2.2), []) else none := by
      unfold jrow
      rw [hr, if_neg (by decide), if_neg (by decide), if_neg (by decide), if_neg (by decide), if_neg (by decide), if_neg (by decide), if_neg (by decide), if_neg (by decide), if_neg (by decide), if_neg (by decide), if_neg (by decide), if_pos rfl, ej]; dsimp only; rw [hp]
    have r2 : s2.1 143 (5000 * b + i) = r.1 := by rw [o2.r (by omega)]; exact row.1
    have r4 : s2.1 144 (5000 * b + i) = r.2.1 := by rw [o2.r (by omega)]; exact row.2.1
    have r6 : s2.1 146 (5000 * b + i) = r.2.2.2.1 := by rw [o2.r (by omega)]; exact row.2.2.2.1
    have f92 : s2.1 97 92 = nI j.2.1.length := by rw [o2.f (by omega)]; exact k1
    unfold b_328_136 at e2
    rw [xg_97_54, wa_143 (by omega), r2, hr, if_pos rfl, xg_97_57, wa_146 (by omega), r6, xg_97_39, wa_128 (by omega), p6.1] at e2
    by_cases q : nI (psM E.2.1 p.1).length = r.2.2.2.1
    · rw [if_pos q] at hj
      rw [if_pos q.symm] at e2
      obtain ⟨y, hy⟩ : ∃ y, y = uI s2 162 (upd (s2.1 162) j.2.1.length (nI (400 * b + p.1))) := ⟨_, rfl⟩
      have y1 : ∀ h, ¬ h = 162 → y.1 h = s2.1 h := fun h e => by rw [hy]; exact uI_ne _ _ _ _ e
      obtain ⟨s3, b1, b2', b3, b4, b5, b6, b7⟩ := lq_328 (mjF (d + 5)) (p := j.2.1.length) (by omega) 5 0 mjN y (by omega) (by omega) (by rw [y1 97 (by decide)]; exact f92) (fun x hx => by omega)
      have fin : mjF (d + 7) 323 [.ref 97, .int (nI (5000 * b + i))] (mjW0 s) = some (none, mjW0 s3) := by
        rw [pre, e2]
        unfold b_328_174
        rw [xg_97_61, if_pos (show s2.1 97 61 ≤ 0 by rw [show s2.1 97 61 = 0 from g2]; exact Int32.le_refl _), xg_97_54, wa_143 (by omega), r2, hr, if_pos rfl, xg_97_89, xg_97_92, f92, ws_162 (by omega), ← hy, show (0 : Int32) = nI 0 from rfl, b1, bN_s]
      have s3r : ∀ h, ¬ h = 97 → ¬ h = 163 → ¬ h = 162 → s3.1 h = s2.1 h := fun h h1 h2 h3 => by rw [b2' h h1 h2, y1 h h3]
      have s3f : ∀ a, ¬ a = 92 → s3.1 97 a = s2.1 97 a := fun a h1 => by rw [b3 a h1, y1 97 (by decide)]
      have s3l : s3.2 = s2.2 := by rw [b5, hy]; rfl
      have ov : oV (5000 * b + i) s s3 := offG.tr o2.V ⟨fun h a hh => by
        by_cases e1 : h = 97
        · subst e1; exact s3f a (by omega)
        · rw [s3r h e1 (by omega) (by omega)], fun h a _ => by rw [s3l], by rw [s3l]⟩
      refine gJ.ok hj S fin ov (by show s3.1 97 61 = 0; rw [s3f 61 (by decide)]; exact g2) ?_ ?_ (by rw [hr]; decide) (by rw [hr]; decide)
      · have hx : nxW r i x = ((x.1.1, x.1.2.1 - 1, (nN r.2.2.2.1, 0) :: x.1.2.2.1, x.1.2.2.2), x.2) := by
          rw [nxW_E ok.1]
          show (hxE r x.1, x.2) = _
          rw [hx_11 hr]
        rw [hx]
        obtain ⟨_, _, ⟨v1, v2⟩, ⟨d1, d2⟩, lf⟩ := R
        refine ⟨⟨by rw [s3f 82 (by decide)]; exact f82, TSs.same hn t2 (s3r _ (by decide) (by decide) (by decide)) (s3r _ (by decide) (by decide) (by decide)) (s3r _ (by decide) (by decide) (by decide)), by show st.length = x.1.2.1 - 1; omega, by show st.length ≤ 60; omega⟩, ⟨b6, ⟨⟨?_, p1, p2, p3, fun a ha => ?_, ?_⟩, ?_⟩, by show (p :: j.2.1).length ≤ 20; rw [List.length_cons]; omega⟩, ⟨v1.same (by rw [s3l]; exact congrFun o2.l 158) (by rw [s3r _ (by decide) (by decide) (by decide), o2.r (by omega)]) (by rw [s3r _ (by decide) (by decide) (by decide), o2.r (by omega)]) (by rw [s3r _ (by decide) (by decide) (by decide), o2.r (by omega)]) (by rw [s3f 87 (by decide), o2.f (by omega)]) (by rw [s3r _ (by decide) (by decide) (by decide), o2.r (by omega)]) (by rw [s3r _ (by decide) (by decide) (by decide), o2.r (by omega)]) (by rw [s3r _ (by decide) (by decide) (by decide), o2.r (by omega)]), v2⟩, ⟨by rw [s3f 88 (by decide), o2.f (by omega)]; exact d1, d2⟩, by rw [s3r 145 (by decide) (by decide) (by decide), o2.r (by omega)]; exact lf⟩
        · rw [b2' 162 (by decide) (by decide), hy, uI_same, upd_g, if_pos rfl]
        · rw [b7 a (by omega), y1 165 (by decide)]
          exact U2 a ha
        · show (psM E.2.1 p.1).length = nN r.2.2.2.1
          rw [← q, nN_nI (by omega)]
        · refine PDs.cg hn _ _ k2 (fun a ha => ⟨?_, fun a' ha' => ?_⟩)
          · rw [b2' 162 (by decide) (by decide), hy, uI_same, upd_g, if_neg (by omega), o2.r (by omega)]
          · rw [b4 _ (by omega), y1 163 (by decide), o2.r (by omega)]
      · rw [s3r 145 (by decide) (by decide) (by decide), o2.r (by omega), row.2.2.1, nA_o (by rw [hr]; decide) (by rw [hr]; decide) (by rw [hr]; decide) (by rw [hr]; decide) (by rw [hr]; decide) (by rw [hr]; decide)]
    · rw [if_neg q] at hj
      rw [if_neg (fun h => q h.symm), xg_97_55, wa_144 (by omega), r4] at e2
      obtain ⟨s3, c1, c2, c3⟩ := x_268 (d := d + 4) (s := s2) (Or.inl g2) (a := 6) (by decide) r.2.1
      rw [xV_97, c1, bN_s] at e2
      unfold b_328_174 at e2
      rw [xg_97_61, if_neg c3, bN_s] at e2
      exact gJ.bad hj (pre.trans e2) (offG.tr o2.V (o61.V c2)) c3
end MJB04
end
section
/-! ===== the reference judges one order: KINDS ===== -/
section MJB05
variable {T : TT} {d N b k t c n m v w p q kq Xe i lo hi X : Nat} {ks zk : List Nat} {L : List CD} {s s' s'' s1 z : mjSt3} {tr : Bool} {E : EV} {j : JS} {x : WS} {r : Row} {u : mjU} {mm : Option Nat} {e : Nat × Bool} {st : List (Nat × Bool)}
/-- a KIND of the BLOCK is judged -/
theorem kindS (F : FX E.1 N b ks E.2.1 E.2.2.1) (B : BK E.1 N b ks E.2.1 lo hi kq zk) (hkt : E.2.2.2.1 = ktL (800 * b) ks) (S : BS E.1 N b ks E.2.1 E.2.2.1 s) (g : gR0 s) (W : NW E b mm s) (h1 : kq ≤ X) (h2 : X < kq + zk.length) : X < 1600 ∧ ∃ s', mjF (d + 4) 313 [.ref 97, .int (nI X), .int (cR b E.2.2.2.2.1)] (mjW0 s) = some (none, mjW0 s') ∧ oTy (fun x => nI X = nI x ∧ x < 1600) s s' ∧ BS E.1 N b ks E.2.1 E.2.2.1 s' ∧ GR s' ∧ (kdE E (nI X) = none → bR0 s') ∧ ∀ k, kdE E (nI X) = some k → gR0 s' ∧ TKr E.2.1 b s' (nI X) (k + 2) := by
  obtain ⟨t, t1, t2, t3, t4, t5, t6, t7, t8⟩ := B.ty F.2.2.2.2 h1 h2
  have l750 := S.1.1.2.2.2.1
  have hb := S.1.1.b1
  have tl := (List.getElem?_eq_some_iff.mp t7).1
  refine ⟨by omega, ?_⟩
  obtain ⟨s', a1, a2, a3, a4, a5⟩ := x_313 (d := d) (h := E.2.2.2.2.1) S.1.1 S.1.2.1 S.1.2.2.1 S.1.2.2.2 W.2.2.1 t2 t3 (Or.inl g)
  have ek : E.2.2.2.1 (nI X) = t := by
    rw [hkt]
    unfold ktL
    rw [nN_nI (by omega), t7]
    rfl
  have ekd : kdE E (nI X) = match kdT E.1 E.2.1 E.2.2.2.2.1 false t with
    | some k => if (E.2.2.1 || nsT E.1 E.2.1 E.2.2.2.2.1 k) = true then some k else none
    | none => none := by
    unfold kdE
    rw [ek]
    cases kdT E.1 E.2.1 E.2.2.2.2.1 false t <;> rfl
  refine ⟨s', a1, a2, BS.ty F B S t2 t5 t6 a2, a3, fun h => ?_, fun k h => ?_⟩
  · refine a3.ng (fun h0 => ?_)
    obtain ⟨k, k1, k2⟩ := (a4.mp h0).2 t4
    rw [ekd, k1] at h
    dsimp only at h
    rw [if_pos k2] at h
    cases h
  · rw [ekd] at h
    cases hk : kdT E.1 E.2.1 E.2.2.2.2.1 false t with
    | none => rw [hk] at h; cases h
    | some k' =>
      rw [hk] at h
      dsimp only at h
      by_cases q : (E.2.2.1 || nsT E.1 E.2.1 E.2.2.2.2.1 k') = true
      · rw [if_pos q] at h
        have e : k' = k := Option.some.inj h
        have g' : gR0 s' := a4.mpr ⟨g, fun _ => ⟨k', hk, q⟩⟩
        refine ⟨g', ?_⟩
        have := a5 g'
        unfold tyT at this
        rw [if_neg t4, hk, e] at this
        exact this
      · rw [if_neg q] at h; cases h
theorem VB.ty {vs : List VE} {td dp : Nat} {pn : Bool} {nw : Int64 × Nat} (hn : HN T N L) (V : VB L b s vs td pn nw dp X Xe) (hX : X < Xe) (o : oTy (fun x => nI X = nI x ∧ x < 1600) s s') : VB L b s' vs td pn nw dp X Xe := by
  obtain ⟨v1, v2, v3, v4, v5, v6, v7⟩ := V
  have rr : ∀ h, ¬ h = 97 → ¬ h = 139 → ¬ h = 142 → s'.1 h = s.1 h := fun h h1 h2 h3 => o.r h1 h2 h3
  have kk : ∀ v ty, v < td + (if pn = true then 1 else 0) → TKr L b s (s.1 159 v) ty → TKr L b s' (s'.1 159 v) ty := by
    intro v ty hv K
    rw [rr 159 (by decide) (by decide) (by decide)]
    exact K.keep hn o (fun k _ e1 e2 => v4 v hv X (Nat.le_refl _) hX (by rw [e1, e2.1]))
  refine ⟨fun e he => ?_, ?_, v3, ?_, ?_, v6, fun hp => ?_⟩
  · obtain ⟨a1, a2, a3, a4, a5, a6⟩ := v1 e he
    exact ⟨a1, by rw [o.l]; exact a2, kk _ _ (by omega) a3, by rw [rr 160 (by decide) (by decide) (by decide)]; exact a4, by rw [rr 161 (by decide) (by decide) (by decide)]; exact a5, a6⟩
  · rw [rr 161 (by decide) (by decide) (by decide)]; exact v2
  · rw [rr 159 (by decide) (by decide) (by decide)]; exact v4
  · rw [o.f (by decide) (by decide)]; exact v5
  · obtain ⟨a1, a2, a3, a4⟩ := v7 hp
    exact ⟨by rw [o.l]; exact a1, kk _ _ (by rw [hp, if_pos rfl]; omega) a2, by rw [rr 160 (by decide) (by decide) (by decide)]; exact a3, by rw [rr 161 (by decide) (by decide) (by decide)]; exact a4⟩
/-- all that the judge goes by, a KIND more -/
theorem BR.ty (hn : HN T N L) (R : BR L b s j x Xe) (hX : x.1.1 < Xe) (o : oTy (fun y => nI x.1.1 = nI y ∧ y < 1600) s s') : BR L b s' j ((x.1.1 + 1, x.1.2), x.2) Xe := by
  obtain ⟨⟨t1, t2, t3, t4⟩, ⟨c1, c2, c3⟩, ⟨v1, v2⟩, ⟨d1, d2⟩, l⟩ := R
  have rr : ∀ h, ¬ h = 97 → ¬ h = 139 → ¬ h = 142 → s'.1 h = s.1 h := fun h h1 h2 h3 => o.r h1 h2 h3
  have v3 := VB.ty hn v1 hX o
  refine ⟨⟨by rw [o.f (by decide) (by decide)]; exact t1, TSs.same hn t2 (rr _ (by decide) (by decide) (by decide)) (rr _ (by decide) (by decide) (by decide)) (rr _ (by decide) (by decide) (by decide)), t3, t4⟩, ⟨by rw [o.f (by decide) (by decide)]; exact c1, PDs.same hn c2 (rr _ (by decide) (by decide) (by decide)) (rr _ (by decide) (by decide) (by decide)), c3⟩, ⟨⟨v3.1, v3.2.1, v3.2.2.1, fun v hv k h1 h2 => v3.2.2.2.1 v hv k (by have : x.1.1 + 1 ≤ k := h1; omega) h2, v3.2.2.2.2⟩, v2⟩, ⟨by rw [o.f (by decide) (by decide)]; exact d1, d2⟩, by rw [rr 145 (by decide) (by decide) (by decide)]; exact l⟩
theorem oTy.J3 (o : oTy (fun y => nI X = nI y ∧ y < 1600) s s') (h1 : lo ≤ X) (h2 : X < hi) (h3 : X < 1600) : oJd k lo hi s s' := oTy.J2 o (fun y hy => by
  have := (nI_eq (by omega) (by omega)).mp hy.1
  omega)
theorem j_7 (F : FX E.1 N b ks E.2.1 E.2.2.1) (B : BK E.1 N b ks E.2.1 lo hi kq zk) (hkt : E.2.2.2.1 = ktL (800 * b) ks) (S : BS E.1 N b ks E.2.1 E.2.2.1 s) (g : gR0 s) (W : NW E b mm s) (R : BR E.2.1 b s j x (kq + zk.length)) (row : Rw s (5000 * b + i) r) (hi : i < 5000) (hr : r.1 = 7) (ok : okEr 60 20 120 r x.1) (hX2 : x.1.1 < kq + zk.length) (hX1 : kq ≤ x.1.1) : gJ E N b ks i x.1.1 (kq + zk.length) r j x s (mjF (d + 7) 323 [.ref 97, .int (nI (5000 * b + i))] (mjW0 s)) := by
  have J := S.1.1
  have hn := J.2.2.2.2.2.1
  have hb := J.b1
  have h60 := R.1.2.2.2
  have hl := R.1.2.2.1
  have ha := ok.2.1 (Or.inl hr)
  have h61 : x.1.2.1 + 1 ≤ 60 := by
    have := ok.2.2.1
    unfold hxE at this
    rw [hr, if_neg (by decide), if_pos rfl] at this
    exact this
  obtain ⟨X16, s1, a1, a2, a3, a4, a5, a6⟩ := kindS (d := d + 2) F B hkt S g W hX1 hX2
  have hx : nxW r i x = ((x.1.1 + 1, x.1.2.1 + 1, x.1.2.2.1, x.1.2.2.2 + 1), x.2) := by
    rw [nxW_E ok.1]
    show (hxE r x.1, x.2) = _
    unfold hxE
    rw [hr, if_neg (by decide), if_pos rfl]
  have hj : jrow E r j = match kdE E r.2.2.1 with
    | none => none
    | some k => some (jpush j (k + 2) false ((k + 2) :: jRS j), [(14, nI k, r.2.1)]) := by
    unfold jrow
    rw [hr, if_neg (by decide), if_neg (by decide), if_neg (by decide), if_neg (by decide), if_neg (by decide), if_pos rfl]
    cases kdE E r.2.2.1 <;> rfl
  have pre : mjF (d + 7) 323 [.ref 97, .int (nI (5000 * b + i))] (mjW0 s) = if s1.1 97 61 = 0 then bN (mjF (d + 6) 326 [.ref 97, .int (nI x.1.1)] (mjW0 s1)) (fun hp23 => some (none, hp23)) else some (none, mjW0 s1) := by
    rw [e_323]
    unfold f_323 b_323_0
    rw [xg_97_54, wa_143 (by omega), row.1, hr, if_neg (by decide), if_neg (by decide), if_neg (by decide), if_neg (by decide), if_pos rfl, xg_97_56, wa_145 (by omega), row.2.2.1, ha, xg_97_132, W.1, xV_97, a1, bN_s, xg_97_61, xg_97_56, wa_145 (by omega), a2.r (h := 145) (by decide) (by decide) (by decide), row.2.2.1, ha, xV_97]
  have oj : oJd (5000 * b + i) x.1.1 (kq + zk.length) s s1 := oTy.J3 a2 (Nat.le_refl _) hX2 X16
  rw [ha] at hj
  cases hk : kdE E (nI x.1.1) with
  | none =>
    rw [hk] at hj
    have g1 := a5 hk
    rw [if_neg g1.ng] at pre
    exact ⟨s1, pre, oj, by rw [hj]; exact g1⟩
  | some k =>
    rw [hk] at hj
    obtain ⟨g1, K1⟩ := a6 k hk
    have R1 := BR.ty hn R hX2 a2
    obtain ⟨s2, b1, b2', b3, b4⟩ := x_326 (d := d + 4) hn K1 (n := j.1.length) (by omega) R1.1.1
    rw [if_pos (show s1.1 97 61 = 0 from g1), b1, bN_s] at pre
    refine ⟨s2, pre, offG.tr oj (oV.J2 (oT.V b2')), ?_⟩
    rw [hj]
    refine ⟨oQ.g b2' g1, oV.S (k := 0) (oT.V b2') a3, ?_, ?_, fun _ k' hk' => ?_⟩
    · rw [hx]
      exact BR.mkT hn R1 (b2'.Q2 (Nat.le_refl _)) (st := (k + 2, false) :: j.1) ⟨b3, TSs.keepT hn R1.1.2.1 b2' (Nat.le_refl _)⟩ b4 (by rw [List.length_cons, hl]) (by rw [List.length_cons]; omega)
    · rw [b2'.r (by omega), a2.r (by decide) (by decide) (by decide), row.2.2.1, nA_o (by rw [hr]; decide) (by rw [hr]; decide) (by rw [hr]; decide) (by rw [hr]; decide) (by rw [hr]; decide) (by rw [hr]; decide)]
    · rw [ha] at hk' ⊢
      rw [hk] at hk'
      rw [← Option.some.inj hk']
      exact K1.cg (b2'.r (by omega)) (b2'.r (by omega)) (b2'.r (by omega))
theorem j_14 (F : FX E.1 N b ks E.2.1 E.2.2.1) (B : BK E.1 N b ks E.2.1 lo hi kq zk) (hkt : E.2.2.2.1 = ktL (800 * b) ks) (S : BS E.1 N b ks E.2.1 E.2.2.1 s) (g : gR0 s) (W : NW E b mm s) (R : BR E.2.1 b s j x (kq + zk.length)) (row : Rw s (5000 * b + i) r) (hi : i < 5000) (hr : r.1 = 14) (ok : okEr 60 20 120 r x.1) (hX2 : x.1.1 < kq + zk.length) (hX1 : kq ≤ x.1.1) : gJ E N b ks i x.1.1 (kq + zk.length) r j x s (mjF (d + 7) 323 [.ref 97, .int (nI (5000 * b + i))] (mjW0 s)) := by
  have J := S.1.1
  have hn := J.2.2.2.2.2.1
  have hb := J.b1
  have h60 := R.1.2.2.2
  have hl := R.1.2.2.1
  have ha := ok.2.1 (Or.inr hr)
  have lo1 := ok.2.2.2.2.2.2.1 (Or.inr (Or.inr (Or.inr (Or.inl hr))))
  obtain ⟨e, st, ej⟩ := lst1 (show 1 ≤ j.1.length by omega)
  have q1 := R.1.1
  have q2 := R.1.2.1
  rw [ej] at q1 q2 hl h60
  rw [List.length_cons] at q1 hl h60
  obtain ⟨X16, s1, a1, a2, a3, a4, a5, a6⟩ := kindS (d := d + 2) F B hkt S g W hX1 hX2
  have hx : nxW r i x = ((x.1.1 + 1, x.1.2.1, x.1.2.2.1, x.1.2.2.2), x.2) := by
    rw [nxW_E ok.1]
    show (hxE r x.1, x.2) = _
    rw [hx_14 hr]
  have hj : jrow E r j = match kdE E r.2.2.1 with
    | none => none
    | some k => if e.1 = 0 then none else some (jst j ((k + 2, false) :: st) ((k + 2) :: (jRS j).drop 1), [(15, nI k, r.2.1)]) := by
    unfold jrow
    rw [hr, if_neg (by decide), if_neg (by decide), if_neg (by decide), if_neg (by decide), if_neg (by decide), if_neg (by decide), if_neg (by decide), if_neg (by decide), if_neg (by decide), if_neg (by decide), if_neg (by decide), if_neg (by decide), if_neg (by decide), if_neg (by decide), if_pos rfl, ej]
    dsimp only
    cases kdE E r.2.2.1 <;> rfl
  have c1 : s1.1 97 82 = nI (st.length + 1) := by rw [a2.f (by decide) (by decide)]; exact q1
  have c2 : s1.1 155 st.length = tyC b e.1 := by rw [a2.r (by decide) (by decide) (by decide)]; exact q2.1.1
  have c3 : s1.1 144 (5000 * b + i) = r.2.1 := by rw [a2.r (by decide) (by decide) (by decide)]; exact row.2.1
  have c4 : s1.1 145 (5000 * b + i) = nI x.1.1 := by rw [a2.r (by decide) (by decide) (by decide), row.2.2.1, ha]
  have pre : mjF (d + 7) 323 [.ref 97, .int (nI (5000 * b + i))] (mjW0 s) = if s1.1 97 61 = 0 then (if tyC b e.1 = -1 then bN (mjF (d + 6) 268 [.ref 97, .int 7, .int r.2.1] (mjW0 s1)) (fun hp51 => b_323_487 (mjF (d + 6)) 97 (nI (5000 * b + i)) hp51) else b_323_487 (mjF (d + 6)) 97 (nI (5000 * b + i)) (mjW0 s1)) else b_323_487 (mjF (d + 6)) 97 (nI (5000 * b + i)) (mjW0 s1) := by
    rw [e_323]
    unfold f_323 b_323_0
    rw [xg_97_54, wa_143 (by omega), row.1, hr, if_neg (by decide), if_neg (by decide), if_neg (by decide), if_neg (by decide), if_neg (by decide), if_neg (by decide), if_neg (by decide), if_neg (by decide), if_neg (by decide), if_neg (by decide), if_neg (by decide), if_pos rfl, xg_97_56, wa_145 (by omega), row.2.2.1, ha, xg_97_132, W.1, xV_97, a1, bN_s, xg_97_61, xg_97_79, xg_97_82, c1, nI_pred, wa_155 (by omega), c2, xg_97_55, wa_144 (by omega), c3, xV_97]
  have oj : oJd (5000 * b + i) x.1.1 (kq + zk.length) s s1 := oTy.J3 a2 (Nat.le_refl _) hX2 X16
  have ty := tyC_0 hn hb q2.1.2.2
  have low : ∀ z : mjSt3, z.1 97 82 = nI (st.length + 1) → ¬ z.1 97 61 = 0 → b_323_487 (mjF (d + 6)) 97 (nI (5000 * b + i)) (mjW0 z) = some (none, mjW0 (uI z 97 (upd (z.1 97) 82 (nI st.length)))) := by
    intro z z1 z2
    unfold b_323_487
    rw [xg_97_82, z1, nI_pred, xp_97_82, xg_97_61, if_neg (show ¬ (uI z 97 (upd (z.1 97) 82 (nI st.length))).1 97 61 = 0 by rw [uI_same, upd_g, if_neg (by decide)]; exact z2)]
  have bad : ∀ z : mjSt3, bR0 z → bR0 (uI z 97 (upd (z.1 97) 82 (nI st.length))) := fun z hz => by
    show ¬ (uI z 97 (upd (z.1 97) 82 (nI st.length))).1 97 61 ≤ 0
    rw [uI_same, upd_g, if_neg (by decide)]
    exact hz
  have ow : ∀ z : mjSt3, oV (5000 * b + i) z (uI z 97 (upd (z.1 97) 82 (nI st.length))) := fun z => oQ.V (n := 0) oQ.w82
  rw [ha] at hj
  cases hk : kdE E (nI x.1.1) with
  | none =>
    rw [hk] at hj
    have g1 := a5 hk
    rw [if_neg g1.ng, low s1 c1 g1.ng] at pre
    exact ⟨_, pre, offG.tr oj (oV.J2 (ow s1)), by rw [hj]; exact bad s1 g1⟩
  | some k =>
    rw [hk] at hj
    obtain ⟨g1, K1⟩ := a6 k hk
    rw [if_pos (show s1.1 97 61 = 0 from g1)] at pre
    dsimp only at hj
    by_cases q : e.1 = 0
    · rw [if_pos q] at hj
      obtain ⟨s2, b1, b2', b3⟩ := x_268 (d := d + 5) (s := s1) (Or.inl g1) (a := 7) (by decide) r.2.1
      rw [if_pos (ty.mpr q), b1, bN_s, low s2 (by rw [b2'.1 97 82 (by omega)]; exact c1) b3.ng] at pre
      exact ⟨_, pre, offG.tr oj (offG.tr (oV.J2 (o61.V b2')) (oV.J2 (ow s2))), by rw [hj]; exact bad s2 b3⟩
    · rw [if_neg q] at hj
      have R1 := BR.ty hn R hX2 a2
      obtain ⟨y, hy⟩ : ∃ y, y = uI s1 97 (upd (s1.1 97) 82 (nI st.length)) := ⟨_, rfl⟩
      have y1 : ∀ h, ¬ h = 97 → y.1 h = s1.1 h := fun h e => by rw [hy]; exact uI_ne _ _ _ _ e
      have y3 : y.1 97 82 = nI st.length := by rw [hy, uI_same, upd_g, if_pos rfl]
      have gy : gR0 y := by show y.1 97 61 = 0; rw [hy, uI_same, upd_g, if_neg (by decide)]; exact g1
      have oy : oQ st.length s1 y := by rw [hy]; exact oQ.w82
      obtain ⟨s2, b1, b2', b3, b4⟩ := x_326 (d := d + 4) (s := y) hn (K1.cg (y1 _ (by decide)) (y1 _ (by decide)) (y1 _ (by decide))) (n := st.length) (by omega) y3
      have t1 := R1.1.2.1
      rw [ej] at t1
      have oq : oQ st.length s1 s2 := offG.tr oy (b2'.Q2 (Nat.le_refl _))
      rw [if_neg (fun h => q (ty.mp h))] at pre
      unfold b_323_487 at pre
      rw [xg_97_82, c1, nI_pred, xp_97_82, ← hy, xg_97_61, if_pos (show y.1 97 61 = 0 from gy), xg_97_56, wa_145 (by omega), y1 145 (by decide), c4, xV_97, b1, bN_s] at pre
      refine ⟨s2, pre, offG.tr oj (oV.J2 oq.V), ?_⟩
      rw [hj]
      refine ⟨oQ.g b2' gy, oV.S (k := 0) oq.V a3, ?_, ?_, fun _ k' hk' => ?_⟩
      · rw [hx]
        exact BR.mkT hn R1 oq (st := (k + 2, false) :: st) ⟨b3, TSs.keepQ hn t1.2 oq (Nat.le_refl _)⟩ b4 (by rw [List.length_cons, hl]) (by rw [List.length_cons]; exact h60)
      · rw [oq.r (by omega), c4, ← ha, nA_o (by rw [hr]; decide) (by rw [hr]; decide) (by rw [hr]; decide) (by rw [hr]; decide) (by rw [hr]; decide) (by rw [hr]; decide)]
      · rw [ha] at hk' ⊢
        rw [hk] at hk'
        rw [← Option.some.inj hk']
        exact K1.cg (oq.r (by omega)) (oq.r (by omega)) (oq.r (by omega))
end MJB05
end
section
/-! ===== the reference judges one order: what is told ===== -/
section MJB06
variable {T : TT} {d N b k t c n m v w p q kq Xe i lo hi X td : Nat} {ks zk : List Nat} {L : List CD} {s s' s'' s1 z : mjSt3} {tr : Bool} {E : EV} {j : JS} {x : WS} {r : Row} {u : mjU} {mm : Option Nat} {e : Nat × Bool} {st : List (Nat × Bool)} {a : Int32}
theorem x_decl (R : mjR) (h1 : z.1 97 87 = nI td) (h2 : td < 16) (hk : k < 10000) : ∃ s', b_335_184 R 97 (nI k) (mjW0 z) = some (none, mjW0 s') ∧ (∀ h, ¬ h = 97 → ¬ (159 ≤ h ∧ h ≤ 161) → s'.1 h = z.1 h) ∧ (∀ y, ¬ y = 87 → s'.1 97 y = z.1 97 y) ∧ (∀ h, ¬ h = 158 → s'.2.1 h = z.2.1 h) ∧ (∀ y, ¬ y = td → s'.2.1 158 y = z.2.1 158 y ∧ s'.1 159 y = z.1 159 y ∧ s'.1 160 y = z.1 160 y ∧ s'.1 161 y = z.1 161 y) ∧ s'.1 97 87 = nI (td + 1) ∧ s'.2.1 158 td = z.2.1 147 k ∧ s'.1 159 td = z.1 145 k ∧ s'.1 160 td = z.1 97 88 ∧ s'.1 161 td = 0 ∧ s'.2.2 = z.2.2 := by
  obtain ⟨z1, g1⟩ : ∃ y, y = uL z 158 (vp_updL (z.2.1 158) td (z.2.1 147 k)) := ⟨_, rfl⟩
  obtain ⟨z2, g2⟩ : ∃ y, y = uI z1 159 (upd (z1.1 159) td (z.1 145 k)) := ⟨_, rfl⟩
  obtain ⟨z3, g3⟩ : ∃ y, y = uI z2 160 (upd (z2.1 160) td (z.1 97 88)) := ⟨_, rfl⟩
  obtain ⟨z4, g4⟩ : ∃ y, y = uI z3 161 (upd (z3.1 161) td (vp_nar .boolean 0)) := ⟨_, rfl⟩
  obtain ⟨z5, g5⟩ : ∃ y, y = uI z4 97 (upd (z4.1 97) 87 (nI (td + 1))) := ⟨_, rfl⟩
  have r1 : z1.1 = z.1 := by rw [g1]; rfl
  have r2 : ∀ h, ¬ h = 159 → z2.1 h = z1.1 h := fun h e => by rw [g2]; exact uI_ne _ _ _ _ e
  have r3 : ∀ h, ¬ h = 160 → z3.1 h = z2.1 h := fun h e => by rw [g3]; exact uI_ne _ _ _ _ e
  have r4 : ∀ h, ¬ h = 161 → z4.1 h = z3.1 h := fun h e => by rw [g4]; exact uI_ne _ _ _ _ e
  have r5 : ∀ h, ¬ h = 97 → z5.1 h = z4.1 h := fun h e => by rw [g5]; exact uI_ne _ _ _ _ e
  have l5 : z5.2 = z1.2 := by rw [g5, g4, g3, g2]; rfl
  have f97 : z4.1 97 = z.1 97 := by rw [r4 97 (by decide), r3 97 (by decide), r2 97 (by decide), r1]
  refine ⟨z5, ?_, fun h e1 e2 => ?_, fun y hy => ?_, fun h hh => ?_, fun y hy => ⟨?_, ?_, ?_, ?_⟩, ?_, ?_, ?_, ?_, ?_, ?_⟩
  · unfold b_335_184
    rw [xg_97_83, xg_97_87, h1, xg_97_58, wa_147 hk, ws_158 h2, ← g1, xg_97_84, xg_97_87, r1, h1, xg_97_56, wa_145 hk, r1, ws_159 h2, ← g2, xg_97_85, xg_97_87, r2 97 (by decide), r1, h1, xg_97_88, r2 97 (by decide), r1, ws_160 h2, ← g3, xg_97_86, xg_97_87, r3 97 (by decide), r2 97 (by decide), r1, h1, ws_161 h2, ← g4, xg_97_87, f97, h1, nI_1, xp_97_87, ← g5]
  · rw [r5 h e1, r4 h (by omega), r3 h (by omega), r2 h (by omega), r1]
  · rw [g5, uI_same, upd_g, if_neg hy, f97]
  · rw [l5, g1]; exact if_neg hh
  · rw [l5, g1]
    show (if (158 : Nat) = 158 then vp_updL (z.2.1 158) td (z.2.1 147 k) else z.2.1 158) y = _
    rw [if_pos rfl]
    exact if_neg hy
  · rw [r5 159 (by decide), r4 159 (by decide), r3 159 (by decide), g2, uI_same, upd_g, if_neg hy, r1]
  · rw [r5 160 (by decide), r4 160 (by decide), g3, uI_same, upd_g, if_neg hy, r2 160 (by decide), r1]
  · rw [r5 161 (by decide), g4, uI_same, upd_g, if_neg hy, r3 161 (by decide), r2 161 (by decide), r1]
  · rw [g5, uI_same, upd_g, if_pos rfl]
  · rw [l5, g1]
    show (if (158 : Nat) = 158 then vp_updL (z.2.1 158) td (z.2.1 147 k) else z.2.1 158) td = _
    rw [if_pos rfl]
    exact if_pos rfl
  · rw [r5 159 (by decide), r4 159 (by decide), r3 159 (by decide), g2, uI_same, upd_g, if_pos rfl]
  · rw [r5 160 (by decide), r4 160 (by decide), g3, uI_same, upd_g, if_pos rfl]
  · rw [r5 161 (by decide), g4, uI_same, upd_g, if_pos rfl]
    rfl
  · rw [l5, g1]; rfl
end MJB06
end
section
/-! ===== the reference judges one order: TYPE NAME = E ===== -/
section MJB07
variable {T : TT} {d N b k t c n m v w p q kq Xe i lo hi X td : Nat} {ks zk : List Nat} {L : List CD} {s s' s'' s1 z : mjSt3} {tr : Bool} {E : EV} {j : JS} {x : WS} {r : Row} {u : mjU} {mm : Option Nat} {e : Nat × Bool} {st : List (Nat × Bool)} {a : Int32}
theorem j_19 (F : FX E.1 N b ks E.2.1 E.2.2.1) (B : BK E.1 N b ks E.2.1 lo hi kq zk) (hkt : E.2.2.2.1 = ktL (800 * b) ks) (S : BS E.1 N b ks E.2.1 E.2.2.1 s) (g : gR0 s) (W : NW E b mm s) (R : BR E.2.1 b s j x (kq + zk.length)) (row : Rw s (5000 * b + i) r) (hi : i < 5000) (hr : r.1 = 19) (pn : x.2.2.2.1 = false) (h16 : x.2.1 < 16) (hA : r.2.2.1 = -1 ∨ (¬ r.2.2.1 = -1 ∧ r.2.2.1 = nI x.1.1)) (hX2 : ¬ r.2.2.1 = -1 → x.1.1 < kq + zk.length) (hlen : kq + zk.length ≤ 100000) (hX1 : kq ≤ x.1.1) : gJ E N b ks i x.1.1 (kq + zk.length) r j x s (mjF (d + 7) 323 [.ref 97, .int (nI (5000 * b + i))] (mjW0 s)) := by
  have J := S.1.1
  have hn := J.2.2.2.2.2.1
  have hb := J.b1
  have h60 := R.1.2.2.2
  have hl := R.1.2.2.1
  have V := R.2.2.1.1
  have htd := R.2.2.1.2
  have nA' : nA E r j = r.2.2.1 := nA_o (by rw [hr]; decide) (by rw [hr]; decide) (by rw [hr]; decide) (by rw [hr]; decide) (by rw [hr]; decide) (by rw [hr]; decide)
  have hx : nxW r i x = ((if r.2.2.1 = -1 then x.1.1 else x.1.1 + 1, x.1.2), x.2.1, x.2.2.1, true, x.2.2.2.2) := by
    unfold nxW
    rw [hr, if_neg (by decide), if_neg (by decide), if_neg (by decide), if_neg (by decide), if_pos rfl]
  have hj : jrow E r j = match tyE E r.2.2.1 with
    | none => none
    | some t => if vsK j.2.2.1 r.2.2.2.2 = none then some ((j.1, j.2.1, j.2.2.1, j.2.2.2.1, j.2.2.2.2.1, (r.2.2.2.2, t), j.2.2.2.2.2.2), []) else none := by
    unfold jrow
    rw [hr, if_neg (by decide), if_neg (by decide), if_neg (by decide), if_neg (by decide), if_neg (by decide), if_neg (by decide), if_neg (by decide), if_neg (by decide), if_neg (by decide), if_neg (by decide), if_neg (by decide), if_neg (by decide), if_neg (by decide), if_neg (by decide), if_neg (by decide), if_neg (by decide), if_neg (by decide), if_pos rfl]
    cases tyE E r.2.2.1 <;> rfl
  have stp : ∃ s1, mjF (d + 5) 313 [.ref 97, .int r.2.2.1, .int (cR b E.2.2.2.2.1)] (mjW0 s) = some (none, mjW0 s1) ∧ oJd (5000 * b + i) x.1.1 (kq + zk.length) s s1 ∧ BS E.1 N b ks E.2.1 E.2.2.1 s1 ∧ GR s1 ∧ BR E.2.1 b s1 j ((if r.2.2.1 = -1 then x.1.1 else x.1.1 + 1, x.1.2), x.2) (kq + zk.length) ∧ (tyE E r.2.2.1 = none → bR0 s1) ∧ (∀ t, tyE E r.2.2.1 = some t → gR0 s1 ∧ TKr E.2.1 b s1 r.2.2.1 t) ∧ (∀ y, (if r.2.2.1 = -1 then x.1.1 else x.1.1 + 1) ≤ y → y < kq + zk.length → ¬ r.2.2.1 = nI y) ∧ (∀ h, ¬ h = 97 → ¬ h = 139 → ¬ h = 142 → s1.1 h = s.1 h) ∧ s1.2 = s.2 := by
    have len750 : kq + zk.length ≤ 100000 := hlen
    rcases hA with hA | ⟨hA1, hA2⟩
    · refine ⟨s, ?_, offG.rf, S, Or.inl g, ?_, fun h => ?_, fun t h => ?_, fun y _ hy => ?_, fun _ _ _ _ => rfl, rfl⟩
      · rw [hA, e_313]
        unfold f_313 b_313_0
        rw [if_neg (by decide)]
      · rw [if_pos hA]; exact R
      · unfold tyE at h
        rw [if_pos hA] at h
        cases h
      · unfold tyE at h
        rw [if_pos hA] at h
        cases h
        exact ⟨g, hA⟩
      · rw [hA]
        exact fun e => nI_m1 (by omega) e.symm
    · obtain ⟨X16, s1, a1, a2, a3, a4, a5, a6⟩ := kindS (d := d + 1) F B hkt S g W hX1 (hX2 hA1)
      have ety : tyE E r.2.2.1 = (kdE E (nI x.1.1)).map (· + 2) := by
        unfold tyE
        rw [if_neg hA1, hA2]
      refine ⟨s1, by rw [hA2]; exact a1, oTy.J3 a2 (Nat.le_refl _) (hX2 hA1) X16, a3, a4, ?_, fun h => ?_, fun t h => ?_, fun y h1 h2 => ?_, fun h h1 h2 h3 => a2.r h1 h2 h3, a2.l⟩
      · rw [if_neg hA1]; exact BR.ty hn R (hX2 hA1) a2
      · rw [ety] at h
        cases hk : kdE E (nI x.1.1) with
        | none => exact a5 hk
        | some k => rw [hk] at h; cases h
      · rw [ety] at h
        cases hk : kdE E (nI x.1.1) with
        | none => rw [hk] at h; cases h
        | some k =>
          rw [hk] at h
          have e1 : k + 2 = t := Option.some.inj h
          rw [hA2, ← e1]
          exact a6 k hk
      · rw [if_neg hA1] at h1
        rw [hA2]
        exact fun e => by
          have := (nI_eq (by omega) (by omega)).mp e
          omega
  obtain ⟨s1, a1, oj, S1, G1, R1, b1, b2', b3, rr, ll⟩ := stp
  have V1 := R1.2.2.1.1
  have V1' : VB E.2.1 b s1 j.2.2.1 j.2.2.2.1 x.2.2.2.1 j.2.2.2.2.2.1 j.2.2.2.2.1 (if r.2.2.1 = -1 then x.1.1 else x.1.1 + 1) (kq + zk.length) := V1
  rw [pn] at V1'
  have u5 := V1'.2.2.2.2.1
  rw [if_neg (show ¬ false = true by decide), Nat.add_zero] at u5
  have t16 : j.2.2.2.1 < 16 := by rw [htd]; exact h16
  have c4 : s1.1 144 (5000 * b + i) = r.2.1 := by rw [rr 144 (by decide) (by decide) (by decide)]; exact row.2.1
  have c5 : s1.1 145 (5000 * b + i) = r.2.2.1 := by rw [rr 145 (by decide) (by decide) (by decide)]; exact row.2.2.1
  have c7 : s1.2.1 147 (5000 * b + i) = r.2.2.2.2 := by rw [ll]; exact row.2.2.2.2
  have pre : mjF (d + 7) 323 [.ref 97, .int (nI (5000 * b + i))] (mjW0 s) = bN (if s1.1 97 61 = 0 then (if vN (vsK j.2.2.1 r.2.2.2.2) = -1 then b_335_184 (mjF (d + 5)) 97 (nI (5000 * b + i)) (mjW0 s1) else bN (mjF (d + 5) 268 [.ref 97, .int 4, .int r.2.1] (mjW0 s1)) (fun hp17 => b_335_184 (mjF (d + 5)) 97 (nI (5000 * b + i)) hp17)) else b_335_184 (mjF (d + 5)) 97 (nI (5000 * b + i)) (mjW0 s1)) (fun hp1 => some (none, hp1)) := by
    rw [e_323]
    unfold f_323 b_323_0 b_323_517
    rw [xg_97_54, wa_143 (by omega), row.1, hr, if_neg (by decide), if_neg (by decide), if_neg (by decide), if_neg (by decide), if_neg (by decide), if_neg (by decide), if_neg (by decide), if_neg (by decide), if_neg (by decide), if_neg (by decide), if_neg (by decide), if_neg (by decide), if_neg (by decide), if_neg (by decide), if_neg (by decide), if_neg (by decide), if_pos rfl, xV_97, e_335]
    unfold f_335 b_335_0
    rw [xg_97_54, wa_143 (by omega), row.1, hr, if_neg (by decide), if_neg (by decide), if_pos rfl, xg_97_56, wa_145 (by omega), row.2.2.1, xg_97_132, W.1, xV_97, a1, bN_s, xg_97_61, xg_97_58, wa_147 (by omega), c7, xV_97, x_325 (d := d + 4) V1', bI_s, xg_97_55, wa_144 (by omega), c4, xV_97]
  have ovd : ∀ {z y : mjSt3}, (∀ h, ¬ h = 97 → ¬ (159 ≤ h ∧ h ≤ 161) → y.1 h = z.1 h) → (∀ a, ¬ a = 87 → y.1 97 a = z.1 97 a) → (∀ h, ¬ h = 158 → y.2.1 h = z.2.1 h) → y.2.2 = z.2.2 → oV (5000 * b + i) z y := fun h1 h2 h3 h4 => ⟨fun h a hh => by
    by_cases e1 : h = 97
    · subst e1; exact h2 a (by omega)
    · rw [h1 h e1 (by omega)], fun h a hh => by rw [h3 h hh], h4⟩
  cases hty : tyE E r.2.2.1 with
  | none =>
    rw [hty] at hj
    have g1 := b1 hty
    obtain ⟨s2, d1, d2, d3, d4, d5, d6, d7, d8, d9, d10, d11⟩ := x_decl (mjF (d + 5)) (k := 5000 * b + i) u5 t16 (by omega)
    rw [if_neg g1.ng, d1, bN_s] at pre
    exact ⟨s2, pre, offG.tr oj (oV.J2 (ovd d2 d3 d4 d11)), by rw [hj]; show ¬ s2.1 97 61 ≤ 0; rw [d3 61 (by decide)]; exact g1⟩
  | some t =>
    rw [hty] at hj
    obtain ⟨g1, K1⟩ := b2' t hty
    rw [if_pos (show s1.1 97 61 = 0 from g1)] at pre
    dsimp only at hj
    cases hv : vsK j.2.2.1 r.2.2.2.2 with
    | some f =>
      rw [hv] at pre
      rw [if_neg (fun h => by rw [hv] at h; cases h)] at hj
      have f16 := V1'.2.2.2.2.2.1
      have f1 := (V1'.1 f (vsK_mem hv).1).1
      obtain ⟨s2, e1, e2, e3⟩ := x_268 (d := d + 4) (s := s1) (Or.inl g1) (a := 4) (by decide) r.2.1
      obtain ⟨s3, d1, d2, d3, d4, d5, d6, d7, d8, d9, d10, d11⟩ := x_decl (mjF (d + 5)) (z := s2) (k := 5000 * b + i) (by rw [e2.1 97 87 (by omega)]; exact u5) t16 (by omega)
      rw [if_neg (show ¬ vN (some f) = -1 from nI_m1 (by omega)), e1, bN_s, d1, bN_s] at pre
      exact ⟨s3, pre, offG.tr oj (offG.tr (oV.J2 (o61.V e2)) (oV.J2 (ovd d2 d3 d4 d11))), by rw [hj]; show ¬ s3.1 97 61 ≤ 0; rw [d3 61 (by decide)]; exact e3⟩
    | none =>
      rw [hv] at pre
      rw [if_pos hv] at hj
      obtain ⟨s2, d1, d2, d3, d4, d5, d6, d7, d8, d9, d10, d11⟩ := x_decl (mjF (d + 5)) (z := s1) (k := 5000 * b + i) u5 t16 (by omega)
      rw [if_pos (show vN none = -1 from rfl), d1, bN_s] at pre
      have o2 : oV (5000 * b + i) s1 s2 := ovd d2 d3 d4 d11
      refine ⟨s2, pre, offG.tr oj (oV.J2 o2), ?_⟩
      rw [hj]
      refine ⟨by show s2.1 97 61 = 0; rw [d3 61 (by decide)]; exact g1, o2.S S1, ?_, ?_, fun h => ?_⟩
      · rw [hx]
        obtain ⟨⟨t1, t2, t3, t4⟩, ⟨c1, c2, c3⟩, _, ⟨e1, e2⟩, lf⟩ := R1
        obtain ⟨u1, u2, u3, u4, _, u6, u7⟩ := V1'
        rw [if_neg (show ¬ false = true by decide), Nat.add_zero] at u4 u6
        have kk : ∀ {ti : Int32} {ty : Nat}, TKr E.2.1 b s1 ti ty → TKr E.2.1 b s2 ti ty := fun h => h.cg (d2 138 (by decide) (by omega)) (d2 139 (by decide) (by omega)) (d2 142 (by decide) (by omega))
        refine ⟨⟨by rw [d3 82 (by decide)]; exact t1, TSs.same hn t2 (d2 _ (by decide) (by omega)) (d2 _ (by decide) (by omega)) (d2 _ (by decide) (by omega)), t3, t4⟩, ⟨by rw [d3 92 (by decide)]; exact c1, PDs.same hn c2 (d2 _ (by decide) (by omega)) (d2 _ (by decide) (by omega)), c3⟩, ⟨⟨fun f hf => ?_, fun y hy => ?_, u3, fun y hy => ?_, ?_, ?_, fun _ => ?_⟩, htd⟩, ⟨by rw [d3 88 (by decide)]; exact e1, e2⟩, by rw [d2 145 (by decide) (by omega)]; exact lf⟩
        · obtain ⟨w1, w2, w3, w4, w5, w6⟩ := u1 f hf
          obtain ⟨y1, y2, y3, y4⟩ := d5 f.2.2.1 (by omega)
          exact ⟨w1, by rw [y1]; exact w2, by rw [y2]; exact kk w3, by rw [y3]; exact w4, by rw [y4]; exact w5, w6⟩
        · obtain ⟨y1, y2, y3, y4⟩ := d5 y (by have : y < j.2.2.2.1 := hy; omega)
          rw [y4]
          exact u2 y hy
        · have hy' : y < j.2.2.2.1 + 1 := hy
          by_cases ey : y = j.2.2.2.1
          · intro k h1 h2
            rw [ey, d8, c5]
            exact b3 k h1 h2
          · rw [(d5 y ey).2.1]
            exact u4 y (by omega)
        · exact d6
        · show j.2.2.2.1 + 1 ≤ 16
          omega
        · exact ⟨by rw [d7]; exact c7, by rw [d8, c5]; exact kk K1, by rw [d9]; exact e1, d10⟩
      · rw [d2 145 (by decide) (by omega), c5, nA']
      · exact absurd h (by rw [hr]; decide)
end MJB07
end
section
/-! ===== the reference judges any order ===== -/
section MJB08
variable {d N b kq i lo hi : Nat} {ks zk : List Nat} {s : mjSt3} {E : EV} {j : JS} {x : WS} {r : Row} {mm : Option Nat}
theorem j_all (F : FX E.1 N b ks E.2.1 E.2.2.1) (B : BK E.1 N b ks E.2.1 lo hi kq zk) (hkt : E.2.2.2.1 = ktL (800 * b) ks) (S : BS E.1 N b ks E.2.1 E.2.2.1 s) (g : gR0 s) (W : NW E b mm s) (R : BR E.2.1 b s j x (kq + zk.length)) (row : Rw s (5000 * b + i) r) (h5 : i < 5000) (ok : okW r x) (hX1 : kq ≤ x.1.1) (hX2 : (nxW r i x).1.1 ≤ kq + zk.length) (hlen : kq + zk.length ≤ 100000) (hlx : ¬ x.2.2.1 = i) (hl5 : x.2.2.1 < 5000) (dp2 : j.2.2.2.2.1 ≤ 30000) : gJ E N b ks i x.1.1 (kq + zk.length) r j x s (mjF (d + 7) 323 [.ref 97, .int (nI (5000 * b + i))] (mjW0 s)) := by
  have X7 : r.1 = 7 ∨ r.1 = 14 → isE r → x.1.1 < kq + zk.length := by
    intro h hE
    rw [nxW_E hE] at hX2
    have hX3 : (hxE r x.1).1 ≤ kq + zk.length := hX2
    rcases h with h | h
    · unfold hxE at hX3
      rw [h, if_neg (by decide), if_pos rfl] at hX3
      have : x.1.1 + 1 ≤ kq + zk.length := hX3
      omega
    · rw [hx_14 h] at hX3
      have : x.1.1 + 1 ≤ kq + zk.length := hX3
      omega
  rcases ok with ok | ⟨hr, h50⟩ | ⟨hr, l1, l2⟩ | ⟨hr, l1, ha⟩ | ⟨hr, pn, t16, hA⟩ | ⟨hr, pn, t16, ha, l1, l2⟩ | ⟨hr, h28, l1, l2⟩ | hr | ⟨hr, pn⟩ | ⟨hr, pn, dp1⟩
  · have ok' := ok
    have lo9 := ok.2.2.2.2.2
    rcases ok.1 with hr | hr | hr | hr | hr | hr | hr | hr | hr | hr | hr | hr | hr
    · exact j_3 S g R row h5 (Or.inl hr) ok'
    · exact j_3 S g R row h5 (Or.inr hr) ok'
    · exact j_5 S g W R row h5 hr ok'
    · refine j_6 S g R row h5 (Or.inl hr) ?_ hlx
      have := ok.2.2.1
      unfold hxE at this
      rw [if_pos (by rw [hr]; decide)] at this
      exact this
    · exact j_7 F B hkt S g W R row h5 hr ok' (X7 (Or.inl hr) ok.1) hX1
    · exact j_8 S g R row h5 hr ok'
    · exact j_9 S g R row h5 hr ok'
    · exact j_10 F S g R row h5 (Or.inl hr) (lo9.2.1 (Or.inl hr)).1 hlx
    · exact j_11 F S g R row h5 hr ok'
    · exact j_12 F S g R row h5 hr ok'
    · exact j_13 S g R row h5 hr ok'
    · exact j_14 F B hkt S g W R row h5 hr ok' (X7 (Or.inr hr) ok.1) hX1
    · exact j_30 S g R row h5 hr ok'
  · exact j_6 S g R row h5 (Or.inr hr) (by omega) hlx
  · exact j_10 F S g R row h5 (Or.inr hr) l1 hlx
  · exact j_17 F S g R row h5 (hr.elim (fun h => Or.inl h.1) (fun h => Or.inr h.1)) l1 ha hlx hl5
  · refine j_19 F B hkt S g W R row h5 hr pn t16 hA (fun hne => ?_) hlen hX1
    unfold nxW at hX2
    rw [hr, if_neg (by decide), if_neg (by decide), if_neg (by decide), if_neg (by decide), if_pos rfl, if_neg hne] at hX2
    have : x.1.1 + 1 ≤ kq + zk.length := hX2
    omega
  · exact j_20 F S g R row h5 hr l1 pn ha dp2
  · rcases hr with hr | hr | hr | hr
    · exact j_21 S g R row h5 (Or.inl hr) l1
    · exact j_21 S g R row h5 (Or.inr hr) l1
    · exact j_28 F S g W R row h5 hr l1
    · exact j_25 S g R row h5 hr l1
  · exact j_1 S g R row h5 hr
  · exact j_26 S g R row h5 hr pn
  · exact j_27 S g R row h5 hr pn (by rw [R.2.2.2.1.2]; exact dp1) dp2
end MJB08
end
section
/-! ===== the reference judges the orders of a BLOCK ===== -/
def oJw (b i en lo hi : Nat) : mjSt3 → mjSt3 → Prop := offG (fun h j => (h = 97 ∧ (j = 61 ∨ j = 62 ∨ j = 82 ∨ j = 87 ∨ j = 88 ∨ j = 92 ∨ j = 95)) ∨ (h = 145 ∧ 5000 * b + i ≤ j ∧ j < 5000 * b + en) ∨ (155 ≤ h ∧ h ≤ 157) ∨ (159 ≤ h ∧ h ≤ 163) ∨ h = 165 ∨ h = 166 ∨ (h = 139 ∧ lo ≤ j ∧ j < hi) ∨ (h = 142 ∧ lo ≤ j / 5 ∧ j / 5 < hi)) (fun h _ => h = 158)
/-- orders from i on, judged -/
def JDG (E : EV) (b : Nat) (s : mjSt3) (i : Nat) (os : List Row) (j : JS) : Prop := ∀ (k : Nat) (r : Row), os[k]? = some r → ∀ j1 l1, jrun E (os.take k) j = some (j1, l1) → Rw s (5000 * b + (i + k)) (r.1, r.2.1, nA E r j1, r.2.2.2.1, r.2.2.2.2) ∧ (r.1 = 7 ∨ r.1 = 14 → ∀ kk, kdE E r.2.2.1 = some kk → TKr E.2.1 b s r.2.2.1 (kk + 2))
section MJB09
variable {d N b kq i en lo hi : Nat} {ks zk : List Nat} {L : List CD} {s s' : mjSt3} {E : EV} {j : JS} {x : WS} {mm : Option Nat}
theorem hx_mono (r : Row) (x : HS) : x.1 ≤ (hxE r x).1 := by
  unfold hxE
  by_cases h1 : r.1 = 3 ∨ r.1 = 4 ∨ r.1 = 5 ∨ r.1 = 6
  · rw [if_pos h1]; exact Nat.le_refl _
  rw [if_neg h1]
  by_cases h2 : r.1 = 7
  · rw [if_pos h2]; exact Nat.le_succ _
  rw [if_neg h2]
  by_cases h3 : r.1 = 9
  · rw [if_pos h3]; exact Nat.le_refl _
  rw [if_neg h3]
  by_cases h4 : r.1 = 14
  · rw [if_pos h4]; exact Nat.le_succ _
  rw [if_neg h4]
  by_cases h5 : r.1 = 11
  · rw [if_pos h5]; exact Nat.le_refl _
  rw [if_neg h5]
  by_cases h6 : r.1 = 12
  · rw [if_pos h6]; exact Nat.le_refl _
  rw [if_neg h6]
  by_cases h7 : r.1 = 13
  · rw [if_pos h7]; exact Nat.le_refl _
  rw [if_neg h7]
  exact Nat.le_refl _
theorem nxW_mono (r : Row) (i : Nat) (x : WS) : x.1.1 ≤ (nxW r i x).1.1 ∧ (nxW r i x).2.2.2.2 ≤ x.2.2.2.2 + 1 ∧ ((nxW r i x).2.2.1 = i ∨ (nxW r i x).2.2.1 = x.2.2.1) := by
  unfold nxW
  by_cases h1 : r.1 = 15
  · rw [if_pos h1]; exact ⟨Nat.le_refl _, Nat.le_succ _, Or.inl rfl⟩
  rw [if_neg h1]
  by_cases h2 : r.1 = 16
  · rw [if_pos h2]; exact ⟨Nat.le_refl _, Nat.le_succ _, Or.inl rfl⟩
  rw [if_neg h2]
  by_cases h3 : r.1 = 17
  · rw [if_pos h3]; exact ⟨Nat.le_refl _, Nat.le_succ _, Or.inr rfl⟩
  rw [if_neg h3]
  by_cases h4 : r.1 = 18
  · rw [if_pos h4]; exact ⟨Nat.le_refl _, Nat.le_succ _, Or.inr rfl⟩
  rw [if_neg h4]
  by_cases h5 : r.1 = 19
  · rw [if_pos h5]
    refine ⟨?_, Nat.le_succ _, Or.inr rfl⟩
    by_cases q : r.2.2.1 = -1
    · rw [if_pos q]; exact Nat.le_refl _
    · rw [if_neg q]; exact Nat.le_succ _
  rw [if_neg h5]
  by_cases h6 : r.1 = 20
  · rw [if_pos h6]; exact ⟨Nat.le_refl _, Nat.le_succ _, Or.inr rfl⟩
  rw [if_neg h6]
  by_cases h7 : r.1 = 21 ∨ r.1 = 24 ∨ r.1 = 28 ∨ r.1 = 25
  · rw [if_pos h7]; exact ⟨Nat.le_refl _, Nat.le_succ _, Or.inr rfl⟩
  rw [if_neg h7]
  by_cases h8 : r.1 = 1 ∨ r.1 = 2 ∨ r.1 = 22 ∨ r.1 = 23
  · rw [if_pos h8]; exact ⟨Nat.le_refl _, Nat.le_succ _, Or.inr rfl⟩
  rw [if_neg h8]
  by_cases h9 : r.1 = 26
  · rw [if_pos h9]; exact ⟨Nat.le_refl _, Nat.le_refl _, Or.inr rfl⟩
  rw [if_neg h9]
  by_cases h10 : r.1 = 27
  · rw [if_pos h10]; exact ⟨Nat.le_refl _, Nat.le_trans (Nat.sub_le _ _) (Nat.le_succ _), Or.inr rfl⟩
  rw [if_neg h10]
  exact ⟨hx_mono r x.1, Nat.le_succ _, Or.inr rfl⟩
theorem fdW_mono : ∀ (l : List Row) (i : Nat) (x : WS), x.1.1 ≤ (fdW l i x).1.1
  | [], _, _ => Nat.le_refl _
  | r :: l, i, x => Nat.le_trans (nxW_mono r i x).1 (fdW_mono l (i + 1) (nxW r i x))
theorem okW_28 {r : Row} (ok : okW r x) (h : r.1 = 28) : ¬ r.2.2.1 = 0 := by
  rcases ok with ok | ⟨hr, _⟩ | ⟨hr, _⟩ | ⟨hr, _⟩ | ⟨hr, _⟩ | ⟨hr, _⟩ | ⟨_, h28, _⟩ | hr | ⟨hr, _⟩ | ⟨hr, _⟩
  · rcases ok.1 with hr | hr | hr | hr | hr | hr | hr | hr | hr | hr | hr | hr | hr <;> exact absurd (hr.symm.trans h) (by decide)
  · exact absurd (hr.symm.trans h) (by decide)
  · exact absurd (hr.symm.trans h) (by decide)
  · rcases hr with hr | hr <;> exact absurd (hr.1.symm.trans h) (by decide)
  · exact absurd (hr.symm.trans h) (by decide)
  · exact absurd (hr.symm.trans h) (by decide)
  · exact h28 h
  · rcases hr with hr | hr | hr | hr <;> exact absurd (hr.symm.trans h) (by decide)
  · exact absurd (hr.symm.trans h) (by decide)
  · exact absurd (hr.symm.trans h) (by decide)
theorem oJd.W (o : oJd (5000 * b + i) lo hi s s') (h : i < en) : oJw b i en lo hi s s' := offG.mono o (fun x y z => by
  rcases z with z | z | z
  · exact Or.inl z
  · exact Or.inr (Or.inl ⟨z.1, by omega, by omega⟩)
  · exact Or.inr (Or.inr z)) (fun _ _ x => x)
theorem oJw.mono {i' lo' : Nat} (o : oJw b i' en lo' hi s s') (h : i ≤ i') (h2 : lo ≤ lo') : oJw b i en lo hi s s' := offG.mono o (fun x y z => by
  rcases z with z | z | z | z | z | z | z | z
  · exact Or.inl z
  · exact Or.inr (Or.inl ⟨z.1, by omega, z.2.2⟩)
  · exact Or.inr (Or.inr (Or.inl z))
  · exact Or.inr (Or.inr (Or.inr (Or.inl z)))
  · exact Or.inr (Or.inr (Or.inr (Or.inr (Or.inl z))))
  · exact Or.inr (Or.inr (Or.inr (Or.inr (Or.inr (Or.inl z)))))
  · exact Or.inr (Or.inr (Or.inr (Or.inr (Or.inr (Or.inr (Or.inl ⟨z.1, Nat.le_trans h2 z.2.1, z.2.2⟩))))))
  · exact Or.inr (Or.inr (Or.inr (Or.inr (Or.inr (Or.inr (Or.inr (⟨z.1, Nat.le_trans h2 z.2.1, z.2.2⟩)))))))) (fun _ _ x => x)
theorem TKr.keepW {ti : Int32} {ty i' : Nat} {T : TT} (hn : HN T N L) (K : TKr L b s ti ty) (o : oJw b i' en lo hi s s') (h : ∀ k, k < 1600 → ti = nI k → ¬ (lo ≤ k ∧ k < hi)) : TKr L b s' ti ty := by
  match ty, K with
  | 0, K => exact K
  | 1, K => exact K.elim
  | kk + 2, ⟨v, k, k1, k2, k3, k4, k5⟩ =>
    have n5 := (vK.n5 hn (v.cl hn)).2
    have out := h k k1 k2
    refine ⟨v, k, k1, k2, ?_, ?_, fun a ha => ?_⟩
    · rw [o.1 138 k (by omega)]; exact k3
    · rw [o.1 139 k (by omega)]; exact k4
    · rw [o.1 142 (5 * k + a) (by omega)]; exact k5 a ha
theorem L322_S (R : mjR) (n a : Nat) (b : Int32) (hp : mjH) : L_322_158 R (n + 1) a b hp = b_322_158 R (L_322_158 R n) a b hp := rfl
theorem lq_322 (F : FX E.1 N b ks E.2.1 E.2.2.1) (B : BK E.1 N b ks E.2.1 lo hi kq zk) (hkt : E.2.2.2.1 = ktL (800 * b) ks) (hlen : kq + zk.length ≤ 100000) (en5 : en < 5000) : ∀ (os : List Row) (i n : Nat) (s : mjSt3) (j : JS) (x : WS), i + os.length = en → os.length + 1 < n → BS E.1 N b ks E.2.1 E.2.2.1 s → gR0 s → NW E b mm s → BR E.2.1 b s j x (kq + zk.length) → (∀ (k : Nat) (r : Row), os[k]? = some r → Rw s (5000 * b + (i + k)) r) → (s.1 143 (5000 * b + en) = 28 ∧ s.1 145 (5000 * b + en) = 0) → sdW os i x → (fdW os i x).1.1 ≤ kq + zk.length → kq ≤ x.1.1 → (x.2.2.1 < i ∨ x.2.2.1 = en) → j.2.2.2.2.1 + os.length ≤ 30000 → ∃ s', L_322_158 (mjF (d + 7)) n 97 (nI (5000 * b + i)) (mjW0 s) = some (none, mjW0 s') ∧ oJw b i en x.1.1 (kq + zk.length) s s' ∧ match jrun E os j with
    | none => bR0 s'
    | some _ => gR0 s' ∧ BS E.1 N b ks E.2.1 E.2.2.1 s' ∧ JDG E b s' i os j
  | os, i, 0, s, j, x, e, hn, S, g, W, R, rows, last, sc, fd, hX, lx, dp => by omega
  | [], i, n + 1, s, j, x, e, hn, S, g, W, R, rows, last, sc, fd, hX, lx, dp => by
    have hb := S.1.1.b1
    have ei : i = en := e
    refine ⟨s, ?_, offG.rf, g, S, fun k r hk => by cases hk⟩
    rw [L322_S]
    unfold b_322_158
    rw [xg_97_61, if_pos (show s.1 97 61 = 0 from g), xg_97_54, wa_143 (by omega), ei, last.1, if_pos rfl, xg_97_56, wa_145 (by omega), last.2, if_pos rfl]
  | r :: os, i, n + 1, s, j, x, e, hn, S, g, W, R, rows, last, sc, fd, hX, lx, dp => by
    have hb := S.1.1.b1
    have hN := S.1.1.2.2.2.2.2.1
    have el : i + (os.length + 1) = en := e
    have dl : j.2.2.2.2.1 + (os.length + 1) ≤ 30000 := dp
    have hn' : os.length + 1 + 1 < n + 1 := hn
    have row : Rw s (5000 * b + i) r := rows 0 r rfl
    have mono := nxW_mono r i x
    have fm := fdW_mono os (i + 1) (nxW r i x)
    have fd' : (fdW os (i + 1) (nxW r i x)).1.1 ≤ kq + zk.length := fd
    obtain ⟨s1, a1, a2, a3⟩ := j_all (d := d) F B hkt S g W R row (by omega) sc.1 hX (by omega) hlen (by omega) (by omega) (by omega)
    have o1 : oJw b i en x.1.1 (kq + zk.length) s s1 := oJd.W a2 (by omega)
    have pre : L_322_158 (mjF (d + 7)) (n + 1) 97 (nI (5000 * b + i)) (mjW0 s) = L_322_158 (mjF (d + 7)) n 97 (nI (5000 * b + (i + 1))) (mjW0 s1) := by
      have nx : b_322_185 (mjF (d + 7)) (L_322_158 (mjF (d + 7)) n) 97 (nI (5000 * b + i)) (mjW0 s) = L_322_158 (mjF (d + 7)) n 97 (nI (5000 * b + (i + 1))) (mjW0 s1) := by
        unfold b_322_185
        rw [xV_97, a1, bN_s, nI_1]
        rfl
      rw [L322_S]
      unfold b_322_158
      rw [xg_97_61, if_pos (show s.1 97 61 = 0 from g), xg_97_54, wa_143 (by omega), row.1, xg_97_56, wa_145 (by omega), row.2.2.1, nx]
      by_cases q : r.1 = 28
      · rw [if_pos q, if_neg (okW_28 sc.1 q)]
      · rw [if_neg q]
    cases hj : jrow E r j with
    | none =>
      rw [hj] at a3
      refine ⟨s1, ?_, o1, ?_⟩
      · rw [pre]
        cases n with
        | zero => omega
        | succ n =>
          rw [L322_S]
          unfold b_322_158
          rw [xg_97_61, if_neg a3.ng]
      · have : jrun E (r :: os) j = none := by
          show (match jrow E r j with
            | none => none
            | some (j1, c1) => match jrun E os j1 with
              | none => none
              | some (j2, c2) => some (j2, c1 ++ c2)) = none
          rw [hj]
        rw [this]
        exact a3
    | some y =>
      obtain ⟨j1, c1⟩ := y
      rw [hj] at a3
      obtain ⟨g1, S1, R1, A1, K1⟩ := a3
      have keep : ∀ k, ¬ k = 5000 * b + i → s1.1 143 k = s.1 143 k ∧ s1.1 144 k = s.1 144 k ∧ s1.1 145 k = s.1 145 k ∧ s1.1 146 k = s.1 146 k ∧ s1.2.1 147 k = s.2.1 147 k := fun k hk => ⟨a2.1 143 k (by omega), a2.1 144 k (by omega), a2.1 145 k (by omega), a2.1 146 k (by omega), a2.2.1 147 k (show ¬ (147 : Nat) = 158 by decide)⟩
      have W1 : NW E b mm s1 := ⟨by rw [a2.1 97 132 (by omega)]; exact W.1, by rw [a2.1 97 133 (by omega)]; exact W.2.1, W.2.2⟩
      have dd : j1.2.2.2.2.1 ≤ j.2.2.2.2.1 + 1 := by
        have e1 := R1.2.2.2.1.2
        have e2 := R.2.2.2.1.2
        omega
      obtain ⟨s', b1, b2', b3⟩ := lq_322 F B hkt hlen en5 os (i + 1) n s1 j1 (nxW r i x) (by omega) (by omega) S1 g1 W1 R1 (fun k r' hk => by
        have := rows (k + 1) r' hk
        rw [show i + (k + 1) = i + 1 + k by omega] at this
        obtain ⟨k1, k2, k3, k4, k5⟩ := keep (5000 * b + (i + 1 + k)) (by omega)
        exact ⟨by rw [k1]; exact this.1, by rw [k2]; exact this.2.1, by rw [k3]; exact this.2.2.1, by rw [k4]; exact this.2.2.2.1, by rw [k5]; exact this.2.2.2.2⟩) (by
        obtain ⟨k1, _, k3, _⟩ := keep (5000 * b + en) (by omega)
        exact ⟨by rw [k1]; exact last.1, by rw [k3]; exact last.2⟩) sc.2 fd' (by omega) (by omega) (by omega)
      refine ⟨s', pre.trans b1, offG.tr o1 (oJw.mono b2' (by omega) mono.1), ?_⟩
      have ejr : jrun E (r :: os) j = match jrun E os j1 with
          | none => none
          | some (j2, c2) => some (j2, c1 ++ c2) := by
        show (match jrow E r j with
          | none => none
          | some (j1, c1) => match jrun E os j1 with
            | none => none
            | some (j2, c2) => some (j2, c1 ++ c2)) = _
        rw [hj]
      rw [ejr]
      cases hjr : jrun E os j1 with
      | none =>
        rw [hjr] at b3
        exact b3
      | some y2 =>
        obtain ⟨j2, c2⟩ := y2
        rw [hjr] at b3
        obtain ⟨g2, S2, D2⟩ := b3
        refine ⟨g2, S2, fun k r' hk => ?_⟩
        cases k with
        | zero =>
          intro j3 l3 hj3
          have er : r' = r := by
            have : some r = some r' := hk
            exact (Option.some.inj this).symm
          have ej : j3 = j := by
            have : some (j, ([] : List Ins)) = some (j3, l3) := hj3
            have := Option.some.inj this
            rw [Prod.mk.injEq] at this
            exact this.1.symm
          rw [er, ej]
          refine ⟨⟨?_, ?_, ?_, ?_, ?_⟩, fun h kk hkk => ?_⟩
          · rw [b2'.1 143 _ (by omega), a2.1 143 _ (by omega)]; exact row.1
          · rw [b2'.1 144 _ (by omega), a2.1 144 _ (by omega)]; exact row.2.1
          · rw [b2'.1 145 _ (by omega)]; exact A1
          · rw [b2'.1 146 _ (by omega), a2.1 146 _ (by omega)]; exact row.2.2.2.1
          · rw [b2'.2.1 147 _ (show ¬ (147 : Nat) = 158 by decide), a2.2.1 147 _ (show ¬ (147 : Nat) = 158 by decide)]; exact row.2.2.2.2
          · have hE : isE r := by rcases h with h | h <;> (unfold isE; rw [h]; decide)
            have okE : okEr 60 20 120 r x.1 := by
              rcases sc.1 with ok | ⟨hr, _⟩ | ⟨hr, _⟩ | ⟨hr, _⟩ | ⟨hr, _⟩ | ⟨hr, _⟩ | ⟨hr, _⟩ | hr | ⟨hr, _⟩ | ⟨hr, _⟩
              · exact ok
              · rcases h with h | h <;> exact absurd (hr.symm.trans h) (by decide)
              · rcases h with h | h <;> exact absurd (hr.symm.trans h) (by decide)
              · rcases h with h | h <;> rcases hr with hr | hr <;> exact absurd (hr.1.symm.trans h) (by decide)
              · rcases h with h | h <;> exact absurd (hr.symm.trans h) (by decide)
              · rcases h with h | h <;> exact absurd (hr.symm.trans h) (by decide)
              · rcases h with h | h <;> rcases hr with hr | hr | hr | hr <;> exact absurd (hr.symm.trans h) (by decide)
              · rcases h with h | h <;> rcases hr with hr | hr | hr | hr <;> exact absurd (hr.symm.trans h) (by decide)
              · rcases h with h | h <;> exact absurd (hr.symm.trans h) (by decide)
              · rcases h with h | h <;> exact absurd (hr.symm.trans h) (by decide)
            have ha := okE.2.1 h
            have X1 : (nxW r i x).1.1 = x.1.1 + 1 := by
              rw [nxW_E hE]
              show (hxE r x.1).1 = x.1.1 + 1
              rcases h with h | h
              · unfold hxE
                rw [h, if_neg (by decide), if_pos rfl]
              · rw [hx_14 h]
            refine TKr.keepW hN (K1 h kk hkk) b2' (fun k hk e => ?_)
            rw [ha] at e
            have := (nI_eq (by omega) (by omega)).mp e
            omega
        | succ k =>
          intro j3 l3 hj3
          have hj4 : (match jrow E r j with
            | none => none
            | some (j1, c1) => match jrun E (os.take k) j1 with
              | none => none
              | some (j2, c2) => some (j2, c1 ++ c2)) = some (j3, l3) := hj3
          rw [hj] at hj4
          dsimp only at hj4
          cases hq : jrun E (os.take k) j1 with
          | none => rw [hq] at hj4; cases hj4
          | some y3 =>
            obtain ⟨j5, l5⟩ := y3
            rw [hq] at hj4
            have e5 : j5 = j3 := by
              have := Option.some.inj hj4
              rw [Prod.mk.injEq] at this
              exact this.1
            rw [e5] at hq
            have := D2 k r' hk j3 l5 hq
            rw [show i + (k + 1) = i + 1 + k by omega]
            exact this
end MJB09
end
section
/-! ===== the reference's judgeBody ===== -/
def oBy (b i en lo hi : Nat) : mjSt3 → mjSt3 → Prop := offG (fun h j => (h = 97 ∧ (j = 61 ∨ j = 62 ∨ j = 82 ∨ j = 87 ∨ j = 88 ∨ j = 92 ∨ j = 95 ∨ j = 132 ∨ j = 133)) ∨ (h = 145 ∧ 5000 * b + i ≤ j ∧ j < 5000 * b + en) ∨ (155 ≤ h ∧ h ≤ 157) ∨ (159 ≤ h ∧ h ≤ 163) ∨ h = 165 ∨ h = 166 ∨ (h = 139 ∧ lo ≤ j ∧ j < hi) ∨ (h = 142 ∧ lo ≤ j / 5 ∧ j / 5 < hi)) (fun h _ => h = 158)
/-- what putting PARAMS among the VARIABLES changes -/
def oPa : mjSt3 → mjSt3 → Prop := offG (fun h j => (h = 97 ∧ j = 87) ∨ (159 ≤ h ∧ h ≤ 161)) (fun h _ => h = 158)
section MJB10
variable {T : TT} {d N b kq en lo hi m : Nat} {ks zk : List Nat} {L : List CD} {s s' : mjSt3} {tr : Bool}
theorem oPa.V2 {k : Nat} (o : oPa s s') : oV k s s' := offG.mono o (fun h j z => by
  rcases z with z | z
  · exact Or.inl ⟨z.1, Or.inr (Or.inr (Or.inr (Or.inl z.2)))⟩
  · exact Or.inr (Or.inr (Or.inr (Or.inl ⟨z.1, by omega⟩)))) (fun _ _ x => x)
theorem oJw.By {i : Nat} (o : oJw b i en lo hi s s') : oBy b i en lo hi s s' := offG.mono o (fun h j z => by
  rcases z with z | z
  · refine Or.inl ⟨z.1, ?_⟩
    rcases z.2 with z | z | z | z | z | z | z
    · exact Or.inl z
    · exact Or.inr (Or.inl z)
    · exact Or.inr (Or.inr (Or.inl z))
    · exact Or.inr (Or.inr (Or.inr (Or.inl z)))
    · exact Or.inr (Or.inr (Or.inr (Or.inr (Or.inl z))))
    · exact Or.inr (Or.inr (Or.inr (Or.inr (Or.inr (Or.inl z)))))
    · exact Or.inr (Or.inr (Or.inr (Or.inr (Or.inr (Or.inr (Or.inl z))))))
  · exact Or.inr z) (fun _ _ x => x)
theorem oPa.By {i : Nat} (o : oPa s s') : oBy b i en lo hi s s' := offG.mono o (fun h j z => by
  rcases z with z | z
  · exact Or.inl ⟨z.1, Or.inr (Or.inr (Or.inr (Or.inl z.2)))⟩
  · exact Or.inr (Or.inr (Or.inr (Or.inl ⟨z.1, by omega⟩)))) (fun _ _ x => x)
theorem pvs_mem : ∀ (n : Nat) (e : VE), e ∈ pvs T L m n → ∃ i, i < n ∧ e = (kyT T (pnT L m i), pyT T L m i, i, 0)
  | 0, e, h => by cases h
  | n + 1, e, h => by
    rcases List.mem_append.mp h with h | h
    · obtain ⟨i, h1, h2⟩ := pvs_mem n e h
      exact ⟨i, by omega, h2⟩
    · exact ⟨n, by omega, by simpa using h⟩
theorem pvs_in : ∀ (n i : Nat), i < n → (kyT T (pnT L m i), pyT T L m i, i, 0) ∈ pvs T L m n
  | 0, i, h => by omega
  | n + 1, i, h => by
    by_cases e : i = n
    · rw [e]
      exact List.mem_append_right _ (List.mem_singleton.mpr rfl)
    · exact List.mem_append_left _ (pvs_in n i (by omega))
theorem pvs_pw : ∀ (n : Nat), (pvs T L m n).Pairwise (fun a c => a.2.2.1 < c.2.2.1)
  | 0 => List.Pairwise.nil
  | n + 1 => by
    show (pvs T L m n ++ [(kyT T (pnT L m n), pyT T L m n, n, 0)]).Pairwise _
    rw [List.pairwise_append]
    refine ⟨pvs_pw n, List.pairwise_singleton _ _, fun f hf f' hf' => ?_⟩
    obtain ⟨i, h1, h2⟩ := pvs_mem n f hf
    have ef : f' = (kyT T (pnT L m n), pyT T L m n, n, 0) := by simpa using hf'
    rw [ef, h2]
    exact h1
theorem L322p_S (R : mjR) (n a : Nat) (b e : Int32) (hp : mjH) : L_322_51 R (n + 1) a b e hp = b_322_51 R (L_322_51 R n) a b e hp := rfl
theorem lq_322p (R : mjR) (hm : m < nMem L) : ∀ (r k n : Nat) (s : mjSt3), k + r = (psM L m).length → r < n → RJ T N b ks L s → s.1 97 87 = nI k → (∀ v, v < k → s.2.1 158 v = kyT T (pnT L m v) ∧ s.1 159 v = s.1 133 (6 * (400 * b + m) + v) ∧ s.1 160 v = 0 ∧ s.1 161 v = 1) → ∃ s', L_322_51 R n 97 (nI (400 * b + m)) (nI k) (mjW0 s) = b_322_125 R 97 (nI (400 * b + m)) (mjW0 s') ∧ oPa s s' ∧ s'.1 97 87 = nI (psM L m).length ∧ ∀ v, v < (psM L m).length → s'.2.1 158 v = kyT T (pnT L m v) ∧ s'.1 159 v = s'.1 133 (6 * (400 * b + m) + v) ∧ s'.1 160 v = 0 ∧ s'.1 161 v = 1
  | r, k, 0, s, e, hr, J, h7, w => by omega
  | 0, k, n + 1, s, e, hr, J, h7, w => by
    have p6 := J.p6 hm
    have hb := J.b1
    have m384 := J.n384
    have ek : k = (psM L m).length := by omega
    refine ⟨s, ?_, offG.rf, by rw [h7, ek], fun v hv => w v (by omega)⟩
    rw [L322p_S]
    unfold b_322_51
    rw [xg_97_39, wa_128 (by omega), p6.1, if_pos (nI_le (by omega) (by omega))]
  | r + 1, k, n + 1, s, e, hr, J, h7, w => by
    have p6 := J.p6 hm
    have hb := J.b1
    have m384 := J.n384
    have hk : k < (psM L m).length := by omega
    obtain ⟨z1, g1⟩ : ∃ y, y = uL s 158 (vp_updL (s.2.1 158) k (kyT T (pnT L m k))) := ⟨_, rfl⟩
    obtain ⟨z2, g2⟩ : ∃ y, y = uI z1 159 (upd (z1.1 159) k (s.1 133 (6 * (400 * b + m) + k))) := ⟨_, rfl⟩
    obtain ⟨z3, g3⟩ : ∃ y, y = uI z2 160 (upd (z2.1 160) k 0) := ⟨_, rfl⟩
    obtain ⟨z4, g4⟩ : ∃ y, y = uI z3 161 (upd (z3.1 161) k (vp_nar .boolean 1)) := ⟨_, rfl⟩
    obtain ⟨z5, g5⟩ : ∃ y, y = uI z4 97 (upd (z4.1 97) 87 (nI (k + 1))) := ⟨_, rfl⟩
    have r1 : z1.1 = s.1 := by rw [g1]; rfl
    have r2 : ∀ h, ¬ h = 159 → z2.1 h = z1.1 h := fun h e => by rw [g2]; exact uI_ne _ _ _ _ e
    have r3 : ∀ h, ¬ h = 160 → z3.1 h = z2.1 h := fun h e => by rw [g3]; exact uI_ne _ _ _ _ e
    have r4 : ∀ h, ¬ h = 161 → z4.1 h = z3.1 h := fun h e => by rw [g4]; exact uI_ne _ _ _ _ e
    have r5 : ∀ h, ¬ h = 97 → z5.1 h = z4.1 h := fun h e => by rw [g5]; exact uI_ne _ _ _ _ e
    have l5 : z5.2 = z1.2 := by rw [g5, g4, g3, g2]; rfl
    have f97 : z4.1 97 = s.1 97 := by rw [r4 97 (by decide), r3 97 (by decide), r2 97 (by decide), r1]
    have o5 : oPa s z5 := by
      refine offG.tr (b := z1) (by rw [g1]; exact offG.wl rfl) (offG.tr (b := z2) (by rw [g2]; exact offG.w (Or.inr ⟨by omega, by omega⟩)) (offG.tr (b := z3) (by rw [g3]; exact offG.w (Or.inr ⟨by omega, by omega⟩)) (offG.tr (b := z4) (by rw [g4]; exact offG.w (Or.inr ⟨by omega, by omega⟩)) (by rw [g5]; exact offG.w (Or.inl ⟨rfl, rfl⟩)))))
    have J5 : RJ T N b ks L z5 := J.off2 (o5.1 97 63 (by omega)) (fun x hx => funext fun y => o5.1 x y (by omega)) (fun x hx => funext fun y => o5.2.1 x y hx)
    have v58 : ∀ v, z5.2.1 158 v = if v = k then kyT T (pnT L m k) else s.2.1 158 v := fun v => by
      rw [l5, g1]
      show (if (158 : Nat) = 158 then vp_updL (s.2.1 158) k (kyT T (pnT L m k)) else s.2.1 158) v = _
      rw [if_pos rfl]
      rfl
    have v59 : ∀ v, z5.1 159 v = if v = k then s.1 133 (6 * (400 * b + m) + k) else s.1 159 v := fun v => by rw [r5 159 (by decide), r4 159 (by decide), r3 159 (by decide), g2, uI_same, upd_g, r1]
    have v60 : ∀ v, z5.1 160 v = if v = k then 0 else s.1 160 v := fun v => by rw [r5 160 (by decide), r4 160 (by decide), g3, uI_same, upd_g, r2 160 (by decide), r1]
    have v61 : ∀ v, z5.1 161 v = if v = k then 1 else s.1 161 v := fun v => by
      rw [r5 161 (by decide), g4, uI_same, upd_g, r3 161 (by decide), r2 161 (by decide), r1]
      rfl
    have v33 : z5.1 133 = s.1 133 := funext fun y => o5.1 133 y (by omega)
    obtain ⟨s', b1, b2', b3, b4⟩ := lq_322p R hm r (k + 1) n z5 (by omega) (by omega) J5 (by rw [g5, uI_same, upd_g, if_pos rfl]) (fun v hv => by
      rw [v58, v59, v60, v61, v33]
      by_cases e' : v = k
      · rw [if_pos e', if_pos e', if_pos e', if_pos e', e']
        exact ⟨rfl, rfl, rfl, rfl⟩
      · rw [if_neg e', if_neg e', if_neg e', if_neg e']
        exact w v (by omega))
    refine ⟨s', ?_, offG.tr o5 b2', b3, b4⟩
    rw [← b1, L322p_S]
    unfold b_322_51
    rw [xg_97_39, wa_128 (by omega), p6.1, if_neg (nI_ge hk (by omega)), xg_97_83, xg_97_46, i6m, wa_135 (by omega), J.pn hm hk, ws_158 (by omega), ← g1, xg_97_84, xg_97_44, wa_133 (by omega), r1, ws_159 (by omega), ← g2, xg_97_85, ws_160 (by omega), ← g3, xg_97_86, ws_161 (by omega), ← g4, xg_97_87, f97, h7, nI_1, xp_97_87, ← g5]
/-- VARIABLES when a METHOD begins -/
theorem VB_pars (F : FX T N b ks L tr) (B : BK T N b ks L lo hi kq zk) (S : BS T N b ks L tr s) (hm : m < nMem L) (h87 : s.1 97 87 = nI (psM L m).length) (w : ∀ v, v < (psM L m).length → s.2.1 158 v = kyT T (pnT L m v) ∧ s.1 159 v = s.1 133 (6 * (400 * b + m) + v) ∧ s.1 160 v = 0 ∧ s.1 161 v = 1) (nw : Int64 × Nat) (dp : Nat) : VB L b s (pvs T L m (psM L m).length) (psM L m).length false nw dp kq (kq + zk.length) := by
  have J := S.1.1
  have p6 := (J.p6 hm).2
  have hb := J.b1
  have l750 := J.2.2.2.1
  refine ⟨fun e he => ?_, fun v hv => ?_, pvs_pw _, ?_, ?_, ?_, fun h => by cases h⟩
  · obtain ⟨i, h1, h2⟩ := pvs_mem _ e he
    obtain ⟨w1, w2, w3, w4⟩ := w i h1
    rw [h2]
    exact ⟨h1, w1, by rw [w2]; exact (S.2.1.1 m hm).2 i h1, w3, w4, Nat.zero_le _⟩
  · exact Or.inr ⟨_, pvs_in _ v hv, rfl⟩
  · rw [if_neg (show ¬ false = true by decide), Nat.add_zero]
    intro v hv k h1 h2 e
    obtain ⟨w1, w2, w3, w4⟩ := w v hv
    obtain ⟨p, hp⟩ : ∃ p, (psM L m)[v]? = some p := ⟨_, List.getElem?_eq_getElem hv⟩
    obtain ⟨M1, _⟩ := J.mem hm
    have v133 : s.1 133 (6 * (400 * b + m) + v) = p.2.2 := (M1.2.2.1.2 v p hp).1
    obtain ⟨t, t1, t2, t3, t4, t5, t6, t7, t8⟩ := B.ty F.2.2.2.2 h1 h2
    have tl := (List.getElem?_eq_some_iff.mp t7).1
    have out := (B.2.2.1.1 m hm).2 v p hp
    have ne : ¬ t = p.1 := fun e => out ⟨by omega, by omega⟩
    exact TyI.ne t2 ((F.2.1.1 m hm).2 v p hp).1 l750 hb ne k (by omega) (by rw [← v133, ← w2]; exact e) ⟨rfl, by omega⟩
  · rw [if_neg (show ¬ false = true by decide), Nat.add_zero]; exact h87
  · rw [if_neg (show ¬ false = true by decide), Nat.add_zero]; omega
end MJB10
end
section
/-! ===== the reference's judgeBody, whole ===== -/
/-- a BLOCK's METHOD (none: main): what is known of it -/
def MMo (E : EV) (b i0 : Nat) (s : mjSt3) (mm : Option Nat) : Prop := match mm with
  | none => E.2.2.2.2.1 = none ∧ E.2.2.2.2.2.1 = 0 ∧ s.1 123 b = nI i0
  | some m => m < nMem E.2.1 ∧ E.2.2.2.2.1 = some (hmM E.2.1 m) ∧ E.2.2.2.2.2.1 = tyM E.1 E.2.1 m ∧ s.1 129 (400 * b + m) = nI i0
/-- what the judge begins with -/
def j0M (E : EV) (mm : Option Nat) : JS := match mm with
  | none => ([], [], [], 0, 0, (0, 0), 0, [])
  | some m => ([], [], pvs E.1 E.2.1 m (psM E.2.1 m).length, (psM E.2.1 m).length, 0, (0, 0), 0, [])
/-- what is written ahead of it -/
def oB0 : mjSt3 → mjSt3 → Prop := offG (fun h j => h = 97 ∧ (j = 82 ∨ j = 87 ∨ j = 88 ∨ j = 92 ∨ j = 132 ∨ j = 133)) (fun _ _ => False)
section MJB11
variable {d N b kq lo hi i0 : Nat} {ks zk : List Nat} {s s' : mjSt3} {E : EV} {mm : Option Nat} {os : List Row}
theorem oB0.r (o : oB0 s s') {h : Nat} (hh : ¬ h = 97) : s'.1 h = s.1 h := funext fun j => o.1 h j (by omega)
theorem oB0.l (o : oB0 s s') : s'.2 = s.2 := Prod.ext (funext fun x => funext fun j => o.2.1 x j (fun e => e)) o.2.2
theorem oB0.S {T : TT} {L : List CD} {tr : Bool} (o : oB0 s s') (B : BS T N b ks L tr s) : BS T N b ks L tr s' := by
  obtain ⟨⟨J, W, I, t⟩, Q, P⟩ := B
  refine ⟨⟨J.off2 (o.1 97 63 (by omega)) (fun x hx => o.r (by omega)) (fun x hx => by rw [o.l]), ?_, ?_, by rw [o.1 97 129 (by omega)]; exact t⟩, ⟨fun x hx => (Q.1 x hx).cg2 (o.r (by decide)) (o.r (by decide)) (o.r (by decide)) (o.r (by decide)) (o.r (by decide)), fun x hx => (Q.2 x hx).cg (o.r (by decide)) (o.r (by decide)) (o.r (by decide)) (o.r (by decide))⟩, ?_⟩
  · unfold WIT; rw [o.r (by decide)]; exact W
  · unfold IRr; rw [o.r (h := 117) (by decide), o.r (h := 118) (by decide)]; exact I
  · unfold PLr; rw [o.r (h := 109) (by decide), o.r (h := 110) (by decide), o.r (h := 130) (by decide), o.r (h := 184) (by decide)]; exact P
/-- from the first order on -/
theorem x_322b (F : FX E.1 N b ks E.2.1 E.2.2.1) (B : BK E.1 N b ks E.2.1 lo hi kq zk) (hkt : E.2.2.2.1 = ktL (800 * b) ks) (hlen : kq + zk.length ≤ 100000) (en5 : i0 + os.length < 5000) (S : BS E.1 N b ks E.2.1 E.2.2.1 s) (g : gR0 s) (W : NW E b mm s) (M : MMo E b i0 s mm) {j : JS} {td : Nat} (hj : j.2.2.2.2.1 = 0) (R : BR E.2.1 b s j ((kq, 0, [], 0), td, i0 + os.length, false, 0) (kq + zk.length)) (rows : ∀ (k : Nat) (r : Row), os[k]? = some r → Rw s (5000 * b + (i0 + k)) r) (last : s.1 143 (5000 * b + (i0 + os.length)) = 28 ∧ s.1 145 (5000 * b + (i0 + os.length)) = 0) (sc : sdW os i0 ((kq, 0, [], 0), td, i0 + os.length, false, 0)) (fd : (fdW os i0 ((kq, 0, [], 0), td, i0 + os.length, false, 0)).1.1 ≤ kq + zk.length) : ∃ s', b_322_125 (mjF (d + 7)) 97 (mR b mm) (mjW0 s) = some (none, mjW0 s') ∧ oJw b i0 (i0 + os.length) kq (kq + zk.length) s s' ∧ match jrun E os j with
    | none => bR0 s'
    | some _ => gR0 s' ∧ BS E.1 N b ks E.2.1 E.2.2.1 s' ∧ JDG E b s' i0 os j := by
  have hmj := mjN_v
  have hb := S.1.1.b1
  have m384 := S.1.1.n384
  obtain ⟨s', a1, a2, a3⟩ := lq_322 (d := d) (mm := mm) (en := i0 + os.length) F B hkt hlen en5 os i0 mjN s j ((kq, 0, [], 0), td, i0 + os.length, false, 0) rfl (by omega) S g W R rows last sc fd (Nat.le_refl _) (Or.inr rfl) (by omega)
  refine ⟨s', ?_, a2, a3⟩
  rw [← a1]
  have e1 : ∀ n : Nat, (5000 : Int32) * nI b + nI n = nI (5000 * b + n) := fun n => by rw [show (5000 : Int32) = nI 5000 from rfl, nI_mul, nI_add]
  unfold b_322_125 b_322_156
  cases mm with
  | none =>
    rw [xg_97_63, S.1.1.1.2, if_pos (show mR b none = -1 from rfl), xg_97_34, xg_97_63, S.1.1.1.2, wa_123 (by omega), show s.1 123 b = nI i0 from M.2.2, e1]
  | some m =>
    have hm : m < nMem E.2.1 := M.1
    rw [xg_97_63, S.1.1.1.2, if_neg (show ¬ mR b (some m) = -1 from nI_m1 (show 400 * b + m < 2 ^ 31 by omega)), xg_97_40, show mR b (some m) = nI (400 * b + m) from rfl, wa_129 (by omega), show s.1 129 (400 * b + m) = nI i0 from M.2.2.2, e1]
end MJB11
end
section
/-! ===== the reference's judgeBody ===== -/
section MJB12
variable {d N b kq lo hi i0 : Nat} {ks zk : List Nat} {s s' : mjSt3} {E : EV} {os : List Row} {mm : Option Nat}
/-- the fields ahead of a BLOCK -/
theorem x_322w (R : mjR) (s : mjSt3) (l1 w : Int32) : ∃ s', b_322_21 R 97 l1 97 w (mjW0 s) = (if l1 = (-1 : Int32) then b_322_125 R 97 l1 (mjW0 s') else L_322_51 R mjN 97 l1 (0 : Int32) (mjW0 s')) ∧ oB0 s s' ∧ s'.1 97 132 = w ∧ s'.1 97 133 = s.1 97 133 ∧ s'.1 97 82 = 0 ∧ s'.1 97 87 = 0 ∧ s'.1 97 88 = 0 ∧ s'.1 97 92 = 0 := by
  obtain ⟨z1, g1⟩ : ∃ y, y = uI s 97 (upd (s.1 97) 132 w) := ⟨_, rfl⟩
  obtain ⟨z2, g2⟩ : ∃ y, y = uI z1 97 (upd (z1.1 97) 82 0) := ⟨_, rfl⟩
  obtain ⟨z3, g3⟩ : ∃ y, y = uI z2 97 (upd (z2.1 97) 87 0) := ⟨_, rfl⟩
  obtain ⟨z4, g4⟩ : ∃ y, y = uI z3 97 (upd (z3.1 97) 88 0) := ⟨_, rfl⟩
  obtain ⟨z5, g5⟩ : ∃ y, y = uI z4 97 (upd (z4.1 97) 92 0) := ⟨_, rfl⟩
  have v1 : ∀ j, z1.1 97 j = if j = 132 then w else s.1 97 j := fun j => by rw [g1, uI_same, upd_g]
  have v2 : ∀ j, z2.1 97 j = if j = 82 then 0 else z1.1 97 j := fun j => by rw [g2, uI_same, upd_g]
  have v3 : ∀ j, z3.1 97 j = if j = 87 then 0 else z2.1 97 j := fun j => by rw [g3, uI_same, upd_g]
  have v4 : ∀ j, z4.1 97 j = if j = 88 then 0 else z3.1 97 j := fun j => by rw [g4, uI_same, upd_g]
  have v5 : ∀ j, z5.1 97 j = if j = 92 then 0 else z4.1 97 j := fun j => by rw [g5, uI_same, upd_g]
  refine ⟨z5, ?_, ?_, ?_, ?_, ?_, ?_, ?_, ?_⟩
  · unfold b_322_21
    rw [xp_97_132, ← g1, xp_97_82, ← g2, xp_97_87, ← g3, xp_97_88, ← g4, xp_97_92, ← g5]
  · refine offG.tr (b := z1) (by rw [g1]; exact offG.w ⟨rfl, by omega⟩) (offG.tr (b := z2) (by rw [g2]; exact offG.w ⟨rfl, by omega⟩) (offG.tr (b := z3) (by rw [g3]; exact offG.w ⟨rfl, by omega⟩) (offG.tr (b := z4) (by rw [g4]; exact offG.w ⟨rfl, by omega⟩) (by rw [g5]; exact offG.w ⟨rfl, by omega⟩))))
  · rw [v5, if_neg (by decide), v4, if_neg (by decide), v3, if_neg (by decide), v2, if_neg (by decide), v1, if_pos rfl]
  · rw [v5, if_neg (by decide), v4, if_neg (by decide), v3, if_neg (by decide), v2, if_neg (by decide), v1, if_neg (by decide)]
  · rw [v5, if_neg (by decide), v4, if_neg (by decide), v3, if_neg (by decide), v2, if_pos rfl]
  · rw [v5, if_neg (by decide), v4, if_neg (by decide), v3, if_pos rfl]
  · rw [v5, if_neg (by decide), v4, if_pos rfl]
  · rw [v5, if_pos rfl]
theorem oB0.By {i en : Nat} (o : oB0 s s') : oBy b i en lo hi s s' := offG.mono o (fun h j x => by omega) (fun _ _ x => x.elim)
/-- judgeBody -/
theorem x_322 (F : FX E.1 N b ks E.2.1 E.2.2.1) (B : BK E.1 N b ks E.2.1 lo hi kq zk) (hkt : E.2.2.2.1 = ktL (800 * b) ks) (hlen : kq + zk.length ≤ 100000) (en5 : i0 + os.length < 5000) (S : BS E.1 N b ks E.2.1 E.2.2.1 s) (g : gR0 s) (M : MMo E b i0 s mm) (rows : ∀ (k : Nat) (r : Row), os[k]? = some r → Rw s (5000 * b + (i0 + k)) r) (last : s.1 143 (5000 * b + (i0 + os.length)) = 28 ∧ s.1 145 (5000 * b + (i0 + os.length)) = 0) (sc : sdW os i0 ((kq, 0, [], 0), (j0M E mm).2.2.2.1, i0 + os.length, false, 0)) (fd : (fdW os i0 ((kq, 0, [], 0), (j0M E mm).2.2.2.1, i0 + os.length, false, 0)).1.1 ≤ kq + zk.length) : ∃ s', mjF (d + 8) 322 [.ref 97, .int (mR b mm)] (mjW0 s) = some (none, mjW0 s') ∧ oBy b i0 (i0 + os.length) kq (kq + zk.length) s s' ∧ match jrun E os (j0M E mm) with
    | none => bR0 s'
    | some _ => gR0 s' ∧ BS E.1 N b ks E.2.1 E.2.2.1 s' ∧ JDG E b s' i0 os (j0M E mm) := by
  have hmj := mjN_v
  have hb := S.1.1.b1
  have m384 := S.1.1.n384
  obtain ⟨z0, g0⟩ : ∃ y, y = uI s 97 (upd (s.1 97) 133 (mR b mm)) := ⟨_, rfl⟩
  have f0 : z0.1 97 133 = mR b mm := by rw [g0, uI_same, upd_g, if_pos rfl]
  have o0 : oB0 s z0 := by rw [g0]; exact offG.w ⟨rfl, by omega⟩
  have S0 := oB0.S o0 S
  obtain ⟨z1, w1, o1, k132, k133, k82, k87, k88, k92⟩ := x_322w (mjF (d + 7)) z0 (mR b mm) (cR b E.2.2.2.2.1)
  have S1 := oB0.S o1 S0
  have o01 : oB0 s z1 := offG.tr o0 o1
  have g1 : gR0 z1 := (o01.1 97 61 (by omega)).trans g
  have rr : ∀ h, ¬ h = 97 → z1.1 h = s.1 h := fun h hh => o01.r hh
  have pre : mjF (d + 8) 322 [.ref 97, .int (mR b mm)] (mjW0 s) = b_322_21 (mjF (d + 7)) 97 (mR b mm) 97 (cR b E.2.2.2.2.1) (mjW0 z0) := by
    rw [e_322]
    unfold f_322 b_322_0
    rw [xp_97_133, ← g0]
    cases mm with
    | none => rw [if_pos (show mR b none = -1 from rfl), show E.2.2.2.2.1 = none from M.1]; rfl
    | some m =>
      have hm : m < nMem E.2.1 := M.1
      rw [if_neg (show ¬ mR b (some m) = -1 from nI_m1 (show 400 * b + m < 2 ^ 31 by omega)), xg_97_35, show mR b (some m) = nI (400 * b + m) from rfl, wa_124 (by omega), (S0.1.1.mem hm).1.1.1, show E.2.2.2.2.1 = some (hmM E.2.1 m) from M.2.1]
      rfl
  have W1 : NW E b mm z1 := by
    refine ⟨k132, k133.trans f0, ?_, ?_, ?_⟩
    · cases mm with
      | none => intro c hc; rw [show E.2.2.2.2.1 = none from M.1] at hc; cases hc
      | some m =>
        intro c hc
        rw [show E.2.2.2.2.1 = some (hmM E.2.1 m) from M.2.1] at hc
        cases hc
        exact (S.1.1.mem (show m < nMem E.2.1 from M.1)).2
    · intro m hm
      subst hm
      exact ⟨M.1, M.2.2.1⟩
    · intro hm
      subst hm
      exact M.2.1
  have Rw1 : ∀ (x : mjSt3), (∀ h, (143 ≤ h ∧ h ≤ 146) → x.1 h = s.1 h) → x.2.1 147 = s.2.1 147 → (∀ (k : Nat) (r : Row), os[k]? = some r → Rw x (5000 * b + (i0 + k)) r) ∧ (x.1 143 (5000 * b + (i0 + os.length)) = 28 ∧ x.1 145 (5000 * b + (i0 + os.length)) = 0) := by
    intro x e1 e2
    refine ⟨fun k r hk => ?_, ?_⟩
    · have := rows k r hk
      unfold Rw at this ⊢
      rw [e1 143 (by omega), e1 144 (by omega), e1 145 (by omega), e1 146 (by omega), e2]
      exact this
    · rw [e1 143 (by omega), e1 145 (by omega)]; exact last
  rw [pre, w1]
  cases mm with
  | none =>
    rw [if_pos (show mR b none = -1 from rfl)]
    obtain ⟨q1, q2⟩ := Rw1 z1 (fun h hh => rr h (by omega)) (by rw [o01.l])
    obtain ⟨s', a1, a2, a3⟩ := x_322b (d := d) (mm := none) (s := z1) (j := j0M E none) (td := 0) F B hkt hlen en5 S1 g1 W1 ⟨M.1, M.2.1, by rw [rr 123 (by decide)]; exact M.2.2⟩ rfl ⟨⟨k82, trivial, rfl, Nat.zero_le _⟩, ⟨k92, trivial, Nat.zero_le _⟩, ⟨⟨fun e he => (by cases he), fun v hv => absurd hv (Nat.not_lt_zero _), List.Pairwise.nil, fun v hv => absurd hv (Nat.not_lt_zero _), k87, Nat.zero_le _, fun h => by cases h⟩, rfl⟩, ⟨k88, rfl⟩, q2.2⟩ q1 q2 sc fd
    exact ⟨s', a1, offG.tr (oB0.By o01) (oJw.By a2), a3⟩
  | some m =>
    have hm : m < nMem E.2.1 := M.1
    rw [if_neg (show ¬ mR b (some m) = -1 from nI_m1 (show 400 * b + m < 2 ^ 31 by omega))]
    have p6 := (S.1.1.p6 hm).2
    obtain ⟨z2, c1, c2, c3, c4⟩ := lq_322p (mjF (d + 7)) hm (psM E.2.1 m).length 0 mjN z1 (by omega) (by omega) S1.1.1 k87 (fun v hv => by omega)
    have S2 := (oPa.V2 (k := 0) c2).S S1
    have g2 : gR0 z2 := (c2.1 97 61 (by omega)).trans g1
    have rr2 : ∀ h, ¬ h = 97 → ¬ (159 ≤ h ∧ h ≤ 161) → z2.1 h = s.1 h := fun h h1 h2 => (funext fun j => c2.1 h j (by omega)).trans (rr h h1)
    have W2 : NW E b (some m) z2 := ⟨(c2.1 97 132 (by omega)).trans W1.1, (c2.1 97 133 (by omega)).trans W1.2.1, W1.2.2⟩
    obtain ⟨q1, q2⟩ := Rw1 z2 (fun h hh => rr2 h (by omega) (by omega)) ((funext fun j => c2.2.1 147 j (show ¬ (147 : Nat) = 158 by decide)).trans (by rw [o01.l]))
    obtain ⟨s', a1, a2, a3⟩ := x_322b (d := d) (mm := some m) (s := z2) (j := j0M E (some m)) (td := (psM E.2.1 m).length) F B hkt hlen en5 S2 g2 W2 ⟨M.1, M.2.1, M.2.2.1, by rw [rr2 129 (by decide) (by decide)]; exact M.2.2.2⟩ rfl ⟨⟨(c2.1 97 82 (by omega)).trans k82, trivial, rfl, Nat.zero_le _⟩, ⟨(c2.1 97 92 (by omega)).trans k92, trivial, Nat.zero_le _⟩, ⟨VB_pars F B S2 hm c3 c4 (0, 0) 0, rfl⟩, ⟨(c2.1 97 88 (by omega)).trans k88, rfl⟩, q2.2⟩ q1 q2 sc fd
    refine ⟨s', ?_, offG.tr (oB0.By o01) (offG.tr (oPa.By c2) (oJw.By a2)), a3⟩
    rw [show mR b (some m) = nI (400 * b + m) from rfl]
    exact c1.trans a1
end MJB12
end
