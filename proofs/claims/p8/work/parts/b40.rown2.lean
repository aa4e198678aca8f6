/-! ===== the reference's RUN: ownersOf, ownersNow ===== -/
/-- what ownersNow changes -/
def oNw : mjSt3 → mjSt3 → Prop := offG (fun h j => (h = 97 ∧ j = 95) ∨ h = 165 ∨ h = 166 ∨ h = 185) (fun _ _ => False)
/-- OBJECT o's own OWNERS -/
def owQ (L : List CD) (H : HEAP) (o x : Nat) : Nat := if x < nmL L (H.2 o).1 then (H.2 o).2.1 x else 0
section MJB40
variable {T : TT} {d N b k n m v u a o1 i kk wm cm : Nat} {L : List CD} {t : PT} {H : HEAP} {f : FRM} {fs : List FRM} {st : List Int32} {sc : SCL} {s s' : mjSt3} {q : Nat → Nat}
theorem oUp.Nw (o : oUp s s') : oNw s s' := offG.mono o (fun h j x => by omega) (fun _ _ x => x)
theorem oNw.Rn (o : oNw s s') : oRn s s' := offG.mono o (fun h j x => by unfold chRn; omega) (fun _ _ x => x)
theorem L236_12 (R : mjR) (n a : Nat) (x y w : Int32) (hp : mjH) : L_236_12 R (n + 1) a x y w hp = b_236_12 R (L_236_12 R n) a x y w hp := rfl
theorem L236_59 (R : mjR) (n a : Nat) (x : Int32) (hp : mjH) : L_236_59 R (n + 1) a x hp = b_236_59 R (L_236_59 R n) a x hp := rfl
theorem lq_236a (hn : HN T N L) (hb : b ≤ 1) (h16 : L.length ≤ 16) (hc : (H.2 o1).1 < L.length) (l4 : o1 < 1400) {tg : Int32} (hfr : frO T L H o1 + nmL L (H.2 o1).1 ≤ 4000) : ∀ (r i m : Nat) (s : mjSt3), i + r = 5 → r < m → s.1 97 95 = nI (16 * b + (H.2 o1).1) → s.1 104 (16 * b + (H.2 o1).1) = nI (nmL L (H.2 o1).1) → s.1 170 o1 = nI (frO T L H o1) → (∀ x, x < nmL L (H.2 o1).1 → s.1 168 (frO T L H o1 + x) = nI ((H.2 o1).2.1 x)) → (∀ x, x < i → x < nmL L (H.2 o1).1 → s.1 165 x = nI ((H.2 o1).2.1 x)) → ∃ s', L_236_12 (mjF (d + 2)) m 97 (nI o1) tg (nI i) (mjW0 s) = L_236_59 (mjF (d + 2)) mjN 97 tg (mjW0 s') ∧ oUp s s' ∧ s'.1 97 = s.1 97 ∧ ∀ x, x < nmL L (H.2 o1).1 → s'.1 165 x = nI ((H.2 o1).2.1 x)
  | r, i, 0, s, e, hr, h5, h4, h0, h8, w => by omega
  | 0, i, m + 1, s, e, hr, h5, h4, h0, h8, w => by
    have n5 := (vK.n5 hn hc).2
    refine ⟨s, ?_, offG.rf, rfl, fun x hx => w x (by omega) hx⟩
    rw [L236_12]
    unfold b_236_12
    rw [if_pos (show (5 : Int32) ≤ nI i from nI_le (a := 5) (by omega) (by omega))]
  | r + 1, i, m + 1, s, e, hr, h5, h4, h0, h8, w => by
    have n5 := (vK.n5 hn hc).2
    have go : ∀ x : Int32, (i < nmL L (H.2 o1).1 → x = nI ((H.2 o1).2.1 i)) → L_236_12 (mjF (d + 2)) (m + 1) 97 (nI o1) tg (nI i) (mjW0 s) = L_236_12 (mjF (d + 2)) m 97 (nI o1) tg (nI (i + 1)) (mjW0 (uI s 165 (upd (s.1 165) i x))) → ∃ s', L_236_12 (mjF (d + 2)) (m + 1) 97 (nI o1) tg (nI i) (mjW0 s) = L_236_59 (mjF (d + 2)) mjN 97 tg (mjW0 s') ∧ oUp s s' ∧ s'.1 97 = s.1 97 ∧ ∀ x, x < nmL L (H.2 o1).1 → s'.1 165 x = nI ((H.2 o1).2.1 x) := by
      intro x hx pre
      have r1 : ∀ h, ¬ h = 165 → (uI s 165 (upd (s.1 165) i x)).1 h = s.1 h := fun h e => uI_ne _ _ _ _ e
      obtain ⟨s', b1, b2', b3, b4⟩ := lq_236a hn hb h16 hc l4 hfr (tg := tg) r (i + 1) m (uI s 165 (upd (s.1 165) i x)) (by omega) (by omega) (by rw [r1 97 (by decide)]; exact h5) (by rw [r1 104 (by decide)]; exact h4) (by rw [r1 170 (by decide)]; exact h0) (fun y hy => by rw [r1 168 (by decide)]; exact h8 y hy) (fun y hy hy' => by
        rw [uI_same, upd_g]
        by_cases e' : y = i
        · rw [if_pos e', hx (by omega), e']
        · rw [if_neg e']; exact w y (by omega) hy')
      have o1' : oUp s (uI s 165 (upd (s.1 165) i x)) := offG.w (Or.inr (Or.inl rfl))
      exact ⟨s', pre.trans b1, o1'.tr b2', by rw [b3, r1 97 (by decide)], b4⟩
    by_cases g : i < nmL L (H.2 o1).1
    · refine go _ (fun _ => rfl) ?_
      rw [L236_12]
      unfold b_236_12 b_236_52
      rw [if_neg (show ¬ (5 : Int32) ≤ nI i from nI_ge (b := 5) (by omega) (by decide)), xg_97_93, xg_97_15, xg_97_95, h5, wa_104 (by omega), h4, if_neg (nI_ge g (by omega)), xg_97_108, xg_97_110, wa_170 l4, h0, nI_add, wa_168 (by omega), h8 i g, ws_165 (by omega), nI_1]
    · refine go 0 (fun h => absurd h g) ?_
      rw [L236_12]
      unfold b_236_12 b_236_52
      rw [if_neg (show ¬ (5 : Int32) ≤ nI i from nI_ge (b := 5) (by omega) (by decide)), xg_97_93, xg_97_15, xg_97_95, h5, wa_104 (by omega), h4, if_pos (nI_le (by omega) (by omega)), ws_165 (by omega), nI_1]
/-- up to the CLASS that is asked for -/
theorem lq_236b (Ac : ACY T N L) (hb : b ≤ 1) {c w : Nat} (hc : c < L.length) (hq : ∀ x, 5 ≤ x → q x = 0) : ∀ (r i m v : Nat) (s : mjSt3), chn (nmL L) (abT T L) c i = some v → chn (nmL L) (abT T L) c (i + r) = some w → i + r < 16 → r < m → UPw L b s v q → (∀ x, x < L.length → ABr T L b s x) → ∃ s', L_236_59 (mjF (d + 2)) m 97 (nI (16 * b + cK w)) (mjW0 s) = some (none, mjW0 s') ∧ oUp s s' ∧ UPw L b s' w q
  | r, i, 0, v, s, e1, e2, h16, hr, U, A => by omega
  | 0, i, m + 1, v, s, e1, e2, h16, hr, U, A => by
    have ev : v = w := by
      have e2' : chn (nmL L) (abT T L) c i = some w := e2
      rw [e1] at e2'
      exact Option.some.inj e2'
    refine ⟨s, ?_, offG.rf, by rw [← ev]; exact U⟩
    rw [L236_59]
    unfold b_236_59
    rw [xg_97_95, U.1, ev, if_pos rfl]
  | r + 1, i, m + 1, v, s, e1, e2, h16, hr, U, A => by
    have hn := Ac.1
    have l16 := hn.1
    have vv := chn_v hn hc i v e1
    have cv := vv.cl hn
    have cw := (chn_v hn hc _ w e2).cl hn
    have ne := chn_ne Ac hc e1 e2 (by omega) (by omega)
    cases hu : abT T L (cK v) with
    | none =>
      have z : chn (nmL L) (abT T L) c (i + 1) = none := by
        show (match chn (nmL L) (abT T L) c i with
          | none => none
          | some v => match abT T L (cK v) with
            | none => none
            | some u => some (stand (nmL L) u v)) = none
        rw [e1]
        dsimp only
        rw [hu]
      have := chn_none (nmL L) (abT T L) z r
      rw [show i + 1 + r = i + (r + 1) by omega, e2] at this
      cases this
    | some u' =>
      have z : chn (nmL L) (abT T L) c (i + 1) = some (stand (nmL L) u' v) := by
        show (match chn (nmL L) (abT T L) c i with
          | none => none
          | some v => match abT T L (cK v) with
            | none => none
            | some u => some (stand (nmL L) u v)) = _
        rw [e1]
        dsimp only
        rw [hu]
      obtain ⟨s1, a1, a2, a3, a4⟩ := x_237 (d := d) hb l16 hn vv hq U (A _ cv) hu
      obtain ⟨s', b1, b2', b3⟩ := lq_236b Ac hb hc hq r (i + 1) m (stand (nmL L) u' v) s1 z (by rw [show i + 1 + r = i + (r + 1) by omega]; exact e2) (by omega) (by omega) a3 (fun x hx => a2.A (A x hx))
      refine ⟨s', ?_, a2.tr b2', b3⟩
      rw [← b1, L236_59]
      unfold b_236_59
      rw [xg_97_95, U.1, if_neg (fun e => ne (by
        have := (nI_eq (by omega) (by omega)).mp e
        omega)), xV_97, a1, bN_s]
/-- ownersOf -/
theorem x_236 (Ac : ACY T N L) (hb : b ≤ 1) (h : HPr T L b H s) (hN : ∀ c, c < L.length → s.1 104 (16 * b + c) = nI (nmL L c)) (A : ∀ x, x < L.length → ABr T L b s x) (hH : HOK T L H) (hw : bsH T L H H.1 ≤ 4000) (a1 : 1 ≤ o1) (a2 : o1 ≤ H.1) (hv : vwT (nmL L) (abT T L) (H.2 o1).1 a = some v) : ∃ s', mjF (d + 3) 236 [.ref 97, .int (nI o1), .int (nI (16 * b + a))] (mjW0 s) = some (none, mjW0 s') ∧ oUp s s' ∧ ∀ i, i < nmL L a → s'.1 165 i = nI (seenO T L H o1 a i) := by
  have hmj := mjN_v
  have hn := Ac.1
  have l16 := hn.1
  obtain ⟨h1, h2, h3, h4⟩ := h o1 a1 a2
  have cl := (hH o1 a1 a2).1
  have n5 := (vK.n5 hn cl).2
  have b3 := bs_3 hn H H.1 (fun x x1 x2 => (hH x x1 x2).1)
  have fr := fr_lt T L H a1 a2
  obtain ⟨z, hz⟩ : ∃ z, z = uI s 97 (upd (s.1 97) 95 (nI (16 * b + (H.2 o1).1))) := ⟨_, rfl⟩
  have rz : ∀ h, ¬ h = 97 → z.1 h = s.1 h := fun h e => by rw [hz]; exact uI_ne _ _ _ _ e
  have oz : oUp s z := by rw [hz]; exact offG.w (Or.inl ⟨rfl, rfl⟩)
  obtain ⟨s1, c1, c2, c3, c4⟩ := lq_236a (d := d) (b := b) (tg := nI (16 * b + a)) hn hb l16 cl (by omega) (by omega) 5 0 mjN z (by omega) (by omega) (by rw [hz, uI_same, upd_g, if_pos rfl]) (by rw [rz 104 (by decide)]; exact hN _ cl) (by rw [rz 170 (by decide)]; exact h2) (fun x hx => by rw [rz 168 (by decide)]; exact h3 x hx) (fun x hx => by omega)
  obtain ⟨j, j1, j2, j3⟩ := vwk_at hv
  have oc : cK (own (nmL L) (H.2 o1).1) = (H.2 o1).1 := own_ck hn cl
  have U1 : UPw L b s1 (own (nmL L) (H.2 o1).1) (owQ L H o1) := by
    refine ⟨by rw [c3, hz, uI_same, upd_g, if_pos rfl, oc], fun i hi => ?_⟩
    rw [oc] at hi
    rw [c4 i hi, show oK (own (nmL L) (H.2 o1).1) i = i from mkK_o n5 (fun j hj => by show j < 8; omega) hi]
    unfold owQ
    rw [if_pos hi]
  obtain ⟨s2, e1, e2, e3⟩ := lq_236b (d := d) (w := v) Ac hb cl (fun x hx => by unfold owQ; rw [if_neg (by omega)]) j 0 mjN _ s1 rfl (by rw [Nat.zero_add]; exact j2) (by omega) (by omega) U1 (fun x hx => c2.A (oz.A (A x hx)))
  refine ⟨s2, ?_, oz.tr (c2.tr e2), fun i hi => ?_⟩
  · rw [e_236]
    unfold f_236 b_236_0
    rw [xg_97_109, wa_169 (by omega), h1, xp_97_95, ← hz, show (0 : Int32) = nI 0 from rfl, c1, ← j3]
    exact e1
  · have := e3.2 i (by rw [j3]; exact hi)
    rw [this]
    unfold seenO owQ
    rw [hv]
end MJB40
