/-! ===== the reference: places, all of it ===== -/
/-- the places of CLASS c and of all above it -/
def PLc (T : TT) (L : List CD) (b c : Nat) (s : mjSt3) : Prop := s.1 109 (16 * b + c) = nI (fldT T L c) ∧ ∀ x a, upI (upT T L) x c = some a → s.1 110 (16 * b + a) = nI (mthL L a) ∧ ∀ i, i < mcL L a → PL1 T L b c s (fmL L a + i)
def PLr (T : TT) (L : List CD) (b : Nat) (s : mjSt3) : Prop := (∀ c, c < L.length → s.1 109 (16 * b + c) = nI (fldT T L c) ∧ s.1 110 (16 * b + c) = nI (mthL L c)) ∧ (∀ m, m < nMem L → s.1 130 (400 * b + m) = nI (numM T L m)) ∧ ∀ c, c < L.length → ∀ m, m < nMem L → mSM L m = false → (vwT (nmL L) (abT T L) c (hmM L m)).isSome = true → s.1 184 (400 * (16 * b + c) + numM T L m) = b2 (decide (2 ≤ tyM T L m))
/-- all that places changes in bank b -/
def oPs (b : Nat) : mjSt3 → mjSt3 → Prop := offG (fun h j => ((h = 109 ∨ h = 110) ∧ 16 * b ≤ j ∧ j < 16 * b + 16) ∨ (h = 130 ∧ 400 * b ≤ j ∧ j < 400 * b + 400) ∨ h = 183 ∨ (h = 184 ∧ 6400 * b ≤ j ∧ j < 6400 * b + 6400)) (fun _ _ => False)
section MJA87
variable {T : TT} {d N b k t c n m v u a o p C : Nat} {ks : List Nat} {L : List CD} {s s' : mjSt3}
theorem oPl.S (hc : c < 16) (h : oPl b (16 * b + c) s s') : oPs b s s' := offG.mono h (fun x y q => by omega) (fun _ _ q => q)
theorem nI_m (k : Nat) : nI (k + 1) + (-1) = nI k := by
  rw [nI_succ, Int32.add_assoc, show (1 : Int32) + -1 = 0 from rfl, Int32.add_zero]
theorem upI_1 {j : Nat} (h1 : upI (upT T L) j c = some a) (h2 : upI (upT T L) (j + 1) c = some p) : upT T L a = some p := by
  rw [upI_S, h1] at h2
  exact h2
theorem lq_321k (Ac : ACY T N L) (hc : c < L.length) (R : mjR) : ∀ (k m : Nat) (s : mjSt3) (a : Nat), k < 16 → k + 1 < m → RJ T N b ks L s → QV T L b (nMem L) s → (∀ x, x ≤ k → ∃ y, upI (upT T L) x c = some y ∧ s.1 183 x = nI (16 * b + y)) → upI (upT T L) k c = some a → ∃ s', L_321_35 R m 97 (nI (16 * b + c)) (nI (fldT T L a - oflL L a)) (nI k) (mjW0 s) = some (none, mjW0 s') ∧ oPl b (16 * b + c) s s' ∧ KPl T L b c s s' ∧ s'.1 109 (16 * b + c) = nI (fldT T L c) ∧ ∀ x, x ≤ k → ∀ y, upI (upT T L) x c = some y → s'.1 110 (16 * b + y) = nI (mthL L y) ∧ ∀ i, i < mcL L y → PL1 T L b c s' (fmL L y + i)
  | k, 0, s, a, h16', hm, J, V, h183, ha => by omega
  | k, m + 1, s, a, h16', hm, J, V, h183, ha => by
    have hb := J.b1
    have h16 := J.len
    have m384 := J.n384
    have al := up_in Ac hc ha
    obtain ⟨E, hE⟩ : ∃ E, L[a]? = some E := ⟨_, List.getElem?_eq_getElem al⟩
    have mc : mcL L a = E.2.length := by unfold mcL; rw [hE]
    obtain ⟨c1, c2, c3, c4⟩ := J.mc al
    have of := ofl_fld (T := T) (c := a) Ac.1
    obtain ⟨y, hy, h18⟩ := h183 k (Nat.le_refl _)
    rw [ha] at hy
    cases hy
    obtain ⟨s1, e1, o1, r1, k1, p1, q1⟩ := lq_321m (kx := k) (k35 := L_321_35 R m) (b := b) (ks := ks) Ac hc hE ((vw_iff Ac hc).mpr ⟨k, ha⟩) (show fldT T L a - oflL L a + oflL L a = fldT T L a by omega) h16' R E.2.length 0 mjN s (by omega) (by have := mjN_v; omega) J V h18
    have pre : L_321_35 R (m + 1) 97 (nI (16 * b + c)) (nI (fldT T L a - oflL L a)) (nI k) (mjW0 s) = L_321_35 R m 97 (nI (16 * b + c)) (nI (fldT T L a)) (nI k + (-1)) (mjW0 s1) := by
      rw [← e1, L321_35]
      unfold b_321_35
      rw [if_neg (nI_pos (by omega)), xg_97_18, xg_97_130, wa_183 h16', h18, wa_107 (by omega), c2, xg_97_63, J.1.2, i4m]
      rfl
    rw [pre]
    have mine : ∀ z, KPl T L b c s1 z → z.1 110 (16 * b + a) = nI (mthL L a) ∧ ∀ i, i < mcL L a → PL1 T L b c z (fmL L a + i) := by
      intro z hz
      refine ⟨hz.2.2 a al q1, fun i hi => ?_⟩
      have pi := p1 i (Nat.zero_le _) (by omega)
      have hmi : fmL L a + i < nMem L := by omega
      have hai : hmM L (fmL L a + i) = a := (nu_at hE (show i < E.2.length by omega)).2.1
      exact ⟨hz.1 _ hmi pi.1, fun hs => hz.2.1 _ hmi hs (by rw [hai]; exact (vw_iff Ac hc).mpr ⟨k, ha⟩) (pi.2 hs)⟩
    cases k with
    | zero =>
      cases ha
      obtain ⟨m, rfl⟩ : ∃ m', m = m' + 1 := ⟨m - 1, by omega⟩
      obtain ⟨z, hz⟩ : ∃ z, z = uI s1 109 (upd (s1.1 109) (16 * b + c) (nI (fldT T L c))) := ⟨_, rfl⟩
      have rz : ∀ y, ¬ y = 109 → z.1 y = s1.1 y := fun y hy => by rw [hz]; exact uI_ne _ _ _ _ hy
      have kz : KPl T L b c s1 z := ⟨fun x _ h => (by rw [rz 130 (by decide)]; exact h), fun x _ _ _ h => (by rw [rz 184 (by decide)]; exact h), fun x _ h => (by rw [rz 110 (by decide)]; exact h)⟩
      refine ⟨z, ?_, o1.tr (by rw [hz]; exact offG.w (Or.inl ⟨rfl, rfl⟩)), KPl.trn k1 kz, by rw [hz, uI_same, upd_g, if_pos rfl], fun x hx y hy => ?_⟩
      · rw [L321_35]
        unfold b_321_35
        rw [if_pos (show nI 0 + (-1) < 0 by decide), xg_97_20, ws_109 (by omega), ← hz]
      · have ex : x = 0 := by omega
        subst ex
        cases hy
        exact mine z kz
    | succ j =>
      obtain ⟨y, hy, hy2⟩ := h183 j (by omega)
      have hu := upI_1 hy ha
      have yl := up_in Ac hc hy
      have fe := fld_up Ac yl hu
      rw [nI_m, show fldT T L a = fldT T L y - oflL L y by omega]
      obtain ⟨s', b1, b2', b3, b4, b5⟩ := lq_321k Ac hc R j m s1 y (by omega) (by omega) (o1.J J) (o1.Q V) (fun x hx => by
        obtain ⟨w, w1, w2⟩ := h183 x (by omega)
        exact ⟨w, w1, by rw [r1]; exact w2⟩) hy
      refine ⟨s', b1, o1.tr b2', KPl.trn k1 b3, b4, fun x hx w hw => ?_⟩
      by_cases e : x = j + 1
      · subst e
        rw [ha] at hw
        cases hw
        exact mine s' b3
      · exact b5 x (by omega) w hw
/-- the chain of CLASSES -/
theorem lq_321a (Ac : ACY T N L) (hc : c < L.length) : ∀ (r j m : Nat) (s : mjSt3), j + r = 16 → r < m → RJ T N b ks L s → (∀ x, x < L.length → ABr T L b s x) → (∀ x, x < j → ∃ y, upI (upT T L) x c = some y ∧ s.1 183 x = nI (16 * b + y)) → ∃ s' n, L_321_4 (mjF (d + 1)) m 97 (nI (16 * b + c)) (nI j) (cR b (upI (upT T L) j c)) (mjW0 s) = L_321_35 (mjF (d + 1)) mjN 97 (nI (16 * b + c)) (nI 0) (nI n - 1) (mjW0 s') ∧ oPl b (16 * b + c) s s' ∧ (∀ x, ¬ x = 183 → s'.1 x = s.1 x) ∧ n ≤ 16 ∧ j ≤ n ∧ upI (upT T L) n c = none ∧ ∀ x, x < n → ∃ y, upI (upT T L) x c = some y ∧ s'.1 183 x = nI (16 * b + y)
  | r, j, 0, s, e, hr, J, A, h => by omega
  | r, j, m + 1, s, e, hr, J, A, h => by
    have hb := J.b1
    have h16 := J.len
    have hn := Ac.1
    cases hu : upI (upT T L) j c with
    | none =>
      refine ⟨s, j, ?_, offG.rf, fun _ _ => rfl, by omega, Nat.le_refl _, hu, h⟩
      rw [L321_4]
      unfold b_321_4
      rw [if_pos (show cR b none = -1 from rfl)]
      rfl
    | some a =>
      have al := up_in Ac hc hu
      have j16 := up_end Ac hc hu
      obtain ⟨r, rfl⟩ : ∃ r', r = r' + 1 := ⟨r - 1, by omega⟩
      obtain ⟨z, hz⟩ : ∃ z, z = uI s 183 (upd (s.1 183) j (nI (16 * b + a))) := ⟨_, rfl⟩
      have oz : oPl b (16 * b + c) s z := by rw [hz]; exact offG.w (Or.inr (Or.inr (Or.inr (Or.inl rfl))))
      have ea : upT T L a = upI (upT T L) (j + 1) c := by rw [upI_S, hu]
      obtain ⟨s', n, b1, b2', br, b3, b4, b5, b6⟩ := lq_321a Ac hc r (j + 1) m z (by omega) (by omega) (oz.J J) (fun x hx => oz.A (A x hx)) (fun x hx => by
        by_cases e' : x = j
        · subst e'; exact ⟨a, hu, by rw [hz, uI_same, upd_g, if_pos rfl]⟩
        · obtain ⟨y, y1, y2⟩ := h x (by omega)
          exact ⟨y, y1, by rw [hz, uI_same, upd_g, if_neg e']; exact y2⟩)
      refine ⟨s', n, ?_, oz.tr b2', fun x hx => by rw [br x hx, hz, uI_ne _ _ _ _ hx], b3, by omega, b5, b6⟩
      rw [← b1, L321_4]
      unfold b_321_4
      rw [if_neg (show ¬ cR b (some a) = -1 from nI_m1 (by omega)), xg_97_130, show cR b (some a) = nI (16 * b + a) from rfl, ws_183 (by omega), ← hz, xV_97, x_242 hb h16 hn al (oz.A (A a al)), bI_s, nI_1, ea]
/-- places -/
theorem x_321 (Ac : ACY T N L) (J : RJ T N b ks L s) (V : QV T L b (nMem L) s) (hc : c < L.length) : ∃ s', mjF (d + 2) 321 [.ref 97, .int (nI (16 * b + c))] (mjW0 s) = some (none, mjW0 s') ∧ oPl b (16 * b + c) s s' ∧ KPl T L b c s s' ∧ PLc T L b c s' := by
  have hb := J.b1
  have h16 := J.len
  obtain ⟨s1, n, a1, a2, r1, a3, a4, a5, a6⟩ := lq_321a (d := d) Ac hc 16 0 mjN s (by omega) (by have := mjN_v; omega) J V.2 (fun x hx => by omega)
  have n1 : 1 ≤ n := by
    cases n with
    | zero => cases a5
    | succ n => omega
  obtain ⟨n, rfl⟩ : ∃ n', n = n' + 1 := ⟨n - 1, by omega⟩
  obtain ⟨a, ha, _⟩ := a6 n (by omega)
  have al := up_in Ac hc ha
  have ut : upT T L a = none := by rw [upI_S, ha] at a5; exact a5
  have ft := fld_top Ac al ut
  obtain ⟨s', b1, b2', b3, b4, b5⟩ := lq_321k (b := b) (ks := ks) Ac hc (mjF (d + 1)) n mjN s1 a (by omega) (by have := mjN_v; omega) (a2.J J) (a2.Q V) (fun x hx => a6 x (by omega)) ha
  rw [show fldT T L a - oflL L a = 0 by omega] at b1
  -- the chain's row alone changed till there; what is right stays right from s on
  have k0 : KPl T L b c s s1 → KPl T L b c s s' := fun h => KPl.trn h b3
  refine ⟨s', ?_, a2.tr b2', k0 ⟨fun x _ h => (by rw [r1 130 (by decide)]; exact h), fun x _ _ _ h => (by rw [r1 184 (by decide)]; exact h), fun x _ h => (by rw [r1 110 (by decide)]; exact h)⟩, b4, fun x y hy => ?_⟩
  · rw [e_321]
    unfold f_321 b_321_0
    rw [← b1, ← nI_pred n]
    exact a1
  · refine b5 x ?_ y hy
    have : ¬ n + 1 ≤ x := by
      intro g
      have := upI_none a5 (x - (n + 1))
      rw [show n + 1 + (x - (n + 1)) = x by omega, hy] at this
      cases this
    omega
end MJA87
