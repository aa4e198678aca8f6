/-! ===== the reference's RUN: ownersNow ===== -/
section MJB41
variable {T : TT} {d N b k n m v u a o1 kx kk wm cm : Nat} {t : PT} {H : HEAP} {f : FRM} {fs : List FRM} {st : List Int32} {sc : SCL} {s s' : mjSt3}
theorem L235_S (R : mjR) (n a : Nat) (x y w : Int32) (hp : mjH) : L_235_40 R (n + 1) a x y w hp = b_235_40 R (L_235_40 R n) a x y w hp := rfl
theorem lq_235 {L : List CD} (hn : HN T N L) (vk : vK L kk) (hk : kx < 1600) (R : mjR) {fl self : Nat} (hfl : fl < 40) {g : Nat → Nat} (g5 : g 5 = 0) (g6 : g 6 = self) : ∀ (r i m : Nat) (s : mjSt3), i + r = nmL L (cK kk) → r < m → s.1 138 kx = nI (nmL L (cK kk)) → (∀ x, x < nmL L (cK kk) → s.1 142 (5 * kx + x) = oR (oK kk x)) → s.1 172 fl = nI self → (∀ x, x < nmL L (cK kk) → oK kk x < 5 → s.1 165 (oK kk x) = nI (g (oK kk x))) → (∀ x, x < i → s.1 185 x = nI (g (oK kk x))) → ∃ s', L_235_40 R m 97 (nI kx) (nI fl) (nI i) (mjW0 s) = some (none, mjW0 s') ∧ oNw s s' ∧ ∀ x, x < nmL L (cK kk) → s'.1 185 x = nI (g (oK kk x))
  | r, i, 0, s, e, hr, h8, h2, h7, h5, w => by omega
  | 0, i, m + 1, s, e, hr, h8, h2, h7, h5, w => by
    have n5 := (vK.n5 hn (vk.cl hn)).2
    refine ⟨s, ?_, offG.rf, fun x hx => w x (by omega)⟩
    rw [L235_S]
    unfold b_235_40
    rw [xg_97_49, wa_138 hk, h8, if_pos (nI_le (by omega) (by omega))]
  | r + 1, i, m + 1, s, e, hr, h8, h2, h7, h5, w => by
    have n5 := (vK.n5 hn (vk.cl hn)).2
    have hi : i < nmL L (cK kk) := by omega
    have ow := vk.ow hn i (by omega)
    have go : ∀ x : Int32, x = nI (g (oK kk i)) → L_235_40 R (m + 1) 97 (nI kx) (nI fl) (nI i) (mjW0 s) = L_235_40 R m 97 (nI kx) (nI fl) (nI (i + 1)) (mjW0 (uI s 185 (upd (s.1 185) i x))) → ∃ s', L_235_40 R (m + 1) 97 (nI kx) (nI fl) (nI i) (mjW0 s) = some (none, mjW0 s') ∧ oNw s s' ∧ ∀ x, x < nmL L (cK kk) → s'.1 185 x = nI (g (oK kk x)) := by
      intro x hx pre
      have r1 : ∀ h, ¬ h = 185 → (uI s 185 (upd (s.1 185) i x)).1 h = s.1 h := fun h e => uI_ne _ _ _ _ e
      obtain ⟨s', b1, b2', b3⟩ := lq_235 hn vk hk R hfl g5 g6 r (i + 1) m (uI s 185 (upd (s.1 185) i x)) (by omega) (by omega) (by rw [r1 138 (by decide)]; exact h8) (fun y hy => by rw [r1 142 (by decide)]; exact h2 y hy) (by rw [r1 172 (by decide)]; exact h7) (fun y hy hy' => by rw [r1 165 (by decide)]; exact h5 y hy hy') (fun y hy => by
        rw [uI_same, upd_g]
        by_cases e' : y = i
        · rw [if_pos e', hx, e']
        · rw [if_neg e']; exact w y (by omega))
      have o1' : oNw s (uI s 185 (upd (s.1 185) i x)) := offG.w (Or.inr (Or.inr (Or.inr rfl)))
      exact ⟨s', pre.trans b1, offG.tr o1' b2', b3⟩
    have base : L_235_40 R (m + 1) 97 (nI kx) (nI fl) (nI i) (mjW0 s) = (if oR (oK kk i) = (-1 : Int32) then b_235_100 R (L_235_40 R m) 97 (nI kx) (nI fl) (nI i) 185 (nI i) (0 : Int32) (mjW0 s) else (if oR (oK kk i) = (-2 : Int32) then gR (mjW0 s) 97 12 112 (fun v8 => aI (mjW0 s) v8 (nI fl) (fun v9 => b_235_100 R (L_235_40 R m) 97 (nI kx) (nI fl) (nI i) 185 (nI i) v9 (mjW0 s))) else gR (mjW0 s) 97 12 93 (fun v6 => aI (mjW0 s) v6 (oR (oK kk i)) (fun v7 => b_235_100 R (L_235_40 R m) 97 (nI kx) (nI fl) (nI i) 185 (nI i) v7 (mjW0 s))))) := by
      rw [L235_S]
      unfold b_235_40
      rw [xg_97_49, wa_138 hk, h8, if_neg (nI_ge hi (by omega)), xg_97_53, i5m, wa_142 (by omega), h2 i hi, xg_97_134]
    by_cases e5 : oK kk i = 5
    · refine go 0 (by rw [e5, g5]; rfl) ?_
      rw [base, e5, if_pos (show oR 5 = -1 from rfl)]
      unfold b_235_100
      rw [ws_185 (by omega), nI_1]
    · by_cases e6 : oK kk i = 6
      · refine go (nI self) (by rw [e6, g6]) ?_
        rw [base, e6, if_neg (show ¬ oR 6 = -1 by decide), if_pos (show oR 6 = -2 from rfl), xg_97_112, wa_172 hfl, h7]
        unfold b_235_100
        rw [ws_185 (by omega), nI_1]
      · have lt : oK kk i < 5 := by omega
        have eo : oR (oK kk i) = nI (oK kk i) := by unfold oR; rw [if_neg e5, if_neg e6]
        refine go _ rfl ?_
        rw [base, eo, if_neg (nI_m1 (by omega)), if_neg (nI_m2 (by omega)), xg_97_93, wa_165 lt, h5 i hi lt]
        unfold b_235_100
        rw [ws_185 (by omega), nI_1]
/-- ownersNow -/
theorem x_235 (Ac : ACY T N t.1) (hb : b ≤ 1) (M : MRn T t b wm cm (H, f :: fs, k, st, sc) s) (hN : ∀ c, c < t.1.length → s.1 104 (16 * b + c) = nI (nmL t.1 c)) (A : ∀ x, x < t.1.length → ABr T t.1 b s x) (hH : HOK T t.1 H) (hw : bsH T t.1 H H.1 ≤ 4000) (hfl : fs.length < 40) (m384 : nMem t.1 ≤ 384) (F : (f.1 = 384 ∧ f.2.1 = 0) ∨ (f.1 < nMem t.1 ∧ mSM t.1 f.1 = true ∧ 1 ≤ f.2.1 ∧ f.2.1 ≤ H.1 ∧ (vwT (nmL t.1) (abT T t.1) (H.2 f.2.1).1 (hmM t.1 f.1)).isSome = true)) (hC : f.1 < nMem t.1 → s.1 124 (400 * b + f.1) = nI (16 * b + hmM t.1 f.1)) (vk : vK t.1 kk) (hk : kx < 1600) (h8 : s.1 138 kx = nI (nmL t.1 (cK kk))) (h2 : ∀ x, x < nmL t.1 (cK kk) → s.1 142 (5 * kx + x) = oR (oK kk x)) (h5 : f.1 = 384 → ∀ x, x < nmL t.1 (cK kk) → oK kk x = 5) (hnm : f.1 < nMem t.1 → ∀ x, x < nmL t.1 (cK kk) → oK kk x < 5 → oK kk x < nmL t.1 (hmM t.1 f.1)) : ∃ s', mjF (d + 4) 235 [.ref 97, .int (nI kx)] (mjW0 s) = some (none, mjW0 s') ∧ oNw s s' ∧ ∀ x, x < nmL t.1 (cK kk) → s'.1 185 x = nI (hereO T t.1 H f.1 f.2.1 (oK kk x)) := by
  have hmj := mjN_v
  have hn := Ac.1
  have n5 := (vK.n5 hn (vk.cl hn)).2
  obtain ⟨⟨f1, f2, f3, f4, f5⟩, f6⟩ := M.2.2.1
  have g5 : hereO T t.1 H f.1 f.2.1 5 = 0 := if_pos (Or.inl rfl)
  have g6 : hereO T t.1 H f.1 f.2.1 6 = f.2.1 := by
    unfold hereO
    by_cases e : f.2.1 = 0
    · rw [if_pos (Or.inr e), e]
    · rw [if_neg (fun q => q.elim (fun h => by omega) e), if_pos rfl]
  rcases F with ⟨e1, e2⟩ | ⟨e1, e2, e3, e4, e5⟩
  · obtain ⟨s', a1, a2, a3⟩ := lq_235 (g := hereO T t.1 H f.1 f.2.1) (self := f.2.1) hn vk hk (mjF (d + 3)) hfl g5 g6 (nmL t.1 (cK kk)) 0 mjN s (by omega) (by omega) h8 h2 f2 (fun x hx hx' => by have := h5 e1 x hx; omega) (fun x hx => by omega)
    refine ⟨s', ?_, a2, a3⟩
    rw [e_235]
    unfold f_235 b_235_0
    rw [xg_97_116, M.c16, xg_97_111, nI_pred, wa_171 hfl, f1, show moM f.1 = none from if_pos e1, if_pos (show mR b none = -1 from rfl)]
    unfold b_235_38
    exact a1
  · have n384 : ¬ f.1 = 384 := by omega
    obtain ⟨vv, hv⟩ := Option.isSome_iff_exists.mp e5
    obtain ⟨s1, c1, c2, c3⟩ := x_236 (d := d) Ac hb M.2.1 hN A hH hw e3 e4 hv
    have r1 : ∀ h, h = 138 ∨ h = 142 ∨ h = 172 → s1.1 h = s.1 h := fun h hh => funext fun y => c2.1 h y (by omega)
    obtain ⟨s', a1, a2, a3⟩ := lq_235 (g := hereO T t.1 H f.1 f.2.1) (self := f.2.1) hn vk hk (mjF (d + 3)) hfl g5 g6 (nmL t.1 (cK kk)) 0 mjN s1 (by omega) (by omega) (by rw [r1 138 (by omega)]; exact h8) (fun x hx => by rw [r1 142 (by omega)]; exact h2 x hx) (by rw [r1 172 (by omega)]; exact f2) (fun x hx hx' => by
      rw [c3 _ (hnm e1 x hx hx')]
      unfold hereO
      rw [if_neg (fun q => q.elim (fun h => by omega) (fun h => by omega)), if_neg (by omega)]) (fun x hx => by omega)
    refine ⟨s', ?_, offG.tr c2.Nw a2, a3⟩
    have em : mR b (moM f.1) = nI (400 * b + f.1) := by rw [show moM f.1 = some f.1 from if_neg n384]; rfl
    rw [e_235]
    unfold f_235 b_235_0
    rw [xg_97_116, M.c16, xg_97_111, nI_pred, wa_171 hfl, f1, em, if_neg (nI_m1 (by omega)), xg_97_112, wa_172 hfl, f2, xg_97_35, xg_97_111, wa_171 hfl, f1, em, wa_124 (by omega), hC e1, xV_97, c1, bN_s]
    unfold b_235_38
    exact a1
end MJB41
