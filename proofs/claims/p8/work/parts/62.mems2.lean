/-! ===== the class reads a TEXT so ===== -/
/-- what may change while a TEXT is read into program q -/
def offL (q : Nat) (s s' : mjSt3) : Prop := (∀ h, ¬ (h = q ∨ (q + 1 ≤ h ∧ h ≤ q + 3) ∨ h = q + 6 ∨ h = q + 7 ∨ h = q + 9 ∨ h = q + 10 ∨ h = q + 14 ∨ h = q + 16 ∨ (q + 18 ≤ h ∧ h ≤ q + 20) ∨ h = q + 22) → ¬ (h = 58 ∨ (63 ≤ h ∧ h ≤ 70)) → s'.1 h = s.1 h) ∧ (∀ h, ¬ h = q + 15 → True → s'.2.1 h = s.2.1 h) ∧ (∀ h, ¬ h = 64 → True → True → s'.2.2 h = s.2.2 h)
theorem offL.rf {q : Nat} {s : mjSt3} : offL q s s := ⟨fun _ _ _ => rfl, fun _ _ _ => rfl, fun _ _ _ _ => rfl⟩
theorem offL.tr {q : Nat} {a b c : mjSt3} (h : offL q a b) (g : offL q b c) : offL q a c :=
  ⟨fun x y z => (g.1 x y z).trans (h.1 x y z), fun x y z => (g.2.1 x y z).trans (h.2.1 x y z), fun x y z w => (g.2.2 x y z w).trans (h.2.2 x y z w)⟩
theorem offR.L {q ci fm : Nat} {s s' : mjSt3} (h : offR q ci fm s s') : offL q s s' := by
  refine ⟨fun x a b => funext fun j => h.1 x j ?_, fun x a b => funext fun j => h.2.1 x j ?_, fun x _ _ _ => by rw [h.2.2]⟩
  · unfold chR; omega
  · omega
theorem eR_L {q : Nat} {s s' : mjSt3} {x : RS} (h : offL q s s') : offL q s (eR s' x) := by
  refine ⟨fun y a b => ?_, fun y a b => ?_, fun y a b c => ?_⟩
  · rw [eR_q (by omega) (by omega) (by omega)]; exact h.1 y a b
  · exact h.2.1 y a b
  · exact h.2.2 y a b c
section MJ62
variable {T : TT} {N q : Nat} {s : mjSt3} {f p o v : Int32} {ag : Nat → Int32}
theorem L44_S (R : mjR) (k20 : Nat → Int32 → mjH → mjU) (n : Nat) (a : Nat) (b c : Int32) (hp : mjH) : L_126_44 R k20 (n + 1) a b c hp = b_126_44 R k20 (L_126_44 R k20 n) a b c hp := rfl
theorem L20_S (R : mjR) (n : Nat) (a : Nat) (b : Int32) (hp : mjH) : L_126_20 R (n + 1) a b hp = b_126_20 R (L_126_20 R n) a b hp := rfl
theorem tyS0 : tyS 0 = false := by decide
theorem n_44 (hT : TH T N s) (hf : ¬ f = 0) {d : Nat} (k20 : Nat → Int32 → mjH → mjU) (n : Nat) (i k : Int32) : L_126_44 (mjF (d + 3)) k20 (n + 1) 64 i k (mjW0 (eR s (N, f, p, o, v, ag))) = k20 64 (i + 1) (mjW0 (eR s (N, f, p, o - 1, v, ag))) := by
  rw [L44_S]
  unfold b_126_44 b_126_69
  have e : rV (mjW0 (eR s (N, f, p, o, v, ag))) 64 8 (bN (mjF (d + 3) 138 [.ref 64, .int 125] (mjW0 (eR s (N, f, p, o, v, ag)))) fun hp1 => k20 64 (i + 1) hp1) = k20 64 (i + 1) (mjW0 (eR s (N, f, p, o - 1, v, ag))) := by
    rw [xV_64, u_closeN hT hf, bN_s]
  rw [e, xV_64, u_tyS hT (Nat.le_refl N), bI_s, i01, hT.2.2.1, tyS0, if_neg (show ¬ false = true by decide), e, ite_self]
/-- the MEMBERS and the } of a CLASS -/
theorem x_mems {D kq i0 ci fm : Nat} {k20 : Nat → Int32 → mjH → mjU} {hd : HD} (hD : 192 ≤ D) (hi : ci < 16) (hfm : fm ≤ 24 * ci) : ∀ (f n : Nat) (z : PM) (s : mjSt3) (v : Int32), TH T N s → RQ q s → MI T q ci fm s hd z.2.1 → f + z.2.1.length = 25 → z.2.1.length ≤ 24 → f < n → z.1 ≤ N → match pMems T (N + 1) kq i0 f z with
    | .inl e => (e.1 = 1 ∨ e.1 = 2 ∨ e.1 = 3) ∧ ∃ s' o' v' ag', L_126_44 (mjF D) k20 n 64 (nI ci) (nI z.2.1.length) (mjW0 (eR s (z.1, 0, p, nI 1, v, rAg z.2.2.2.2 ag))) = k20 64 (nI ci + 1) (mjW0 (eR s' (N, nI e.1, (T e.2).2.1, o', v', ag'))) ∧ offR q ci fm s s'
    | .inr y => y.1 ≤ N ∧ y.2.1.length ≤ 24 ∧ ((T y.1).1 = 125 → y.1 < N ∧ ∃ s' v', L_126_44 (mjF D) k20 n 64 (nI ci) (nI z.2.1.length) (mjW0 (eR s (z.1, 0, p, nI 1, v, rAg z.2.2.2.2 ag))) = k20 64 (nI ci + 1) (mjW0 (eR s' (y.1 + 1, 0, p, nI 0, v', rAg y.2.2.2.2 ag))) ∧ offR q ci fm s s' ∧ MI T q ci fm s' hd y.2.1 ∧ (∀ h, h = q + 16 ∨ h = q + 18 ∨ h = q + 20 → s'.1 h 384 = s.1 h 384)) ∧ (¬ (T y.1).1 = 125 → ∃ s' o' v' ag', L_126_44 (mjF D) k20 n 64 (nI ci) (nI z.2.1.length) (mjW0 (eR s (z.1, 0, p, nI 1, v, rAg z.2.2.2.2 ag))) = k20 64 (nI ci + 1) (mjW0 (eR s' (N, nI (F2 T y.1).1, (T (F2 T y.1).2).2.1, o', v', ag'))) ∧ offR q ci fm s s') := by
  obtain ⟨D, rfl⟩ : ∃ e, D = e + 192 := ⟨D - 192, by omega⟩
  intro f
  induction f with
  | zero => intro n z s v hT hQ hM hf; omega
  | succ f ih =>
    intro n z s v hT hQ hM hf hl hn hz
    obtain ⟨n, rfl⟩ : ∃ x, n = x + 1 := ⟨n - 1, by omega⟩
    rw [L44_S]
    unfold b_126_44 pMems
    rw [if_neg (show ¬ (24 : Int32) < nI z.2.1.length from nI_nlt (a := 24) hl (by omega)), xV_64, u_tyS hT hz, bI_s, i01]
    by_cases hty : tyS (T z.1).1 = true
    · rw [if_pos hty, if_pos hty, xV_64]
      have hM' := hM
      obtain ⟨_, _, b2, b3, b4, b5, _, b7⟩ := hM'
      have hm : fm + z.2.1.length < 384 ∨ z.2.1.length = 24 := by omega
      have zz : fm + z.2.1.length < 384 → s.1 (q + 18) (fm + z.2.1.length) = 0 ∧ s.1 (q + 20) (fm + z.2.1.length) = 0 := fun h => b7.2 _ (Nat.le_refl _) h
      have hx : match pMem T (N + 1) z.2.1.length z.1 (kq + z.2.2.1.length) (i0 + z.2.2.2.1.length) with
          | .inl e => mbOK q ci (fm + z.2.1.length) s T N (mjF (D + 192) 136 [.ref 64, .int (nI ci), .int (nI z.2.1.length)] (mjW0 (eR s (z.1, 0, p, nI 1, v, rAg z.2.2.2.2 ag)))) e
          | .inr r => r.1 ≤ N ∧ ∃ s' v', mjF (D + 192) 136 [.ref 64, .int (nI ci), .int (nI z.2.1.length)] (mjW0 (eR s (z.1, 0, p, nI 1, v, rAg z.2.2.2.2 ag))) = some (none, mjW0 (eR s' (r.1, 0, p, nI 1, v', rAg r.2.2.2.2 (rAg z.2.2.2.2 ag)))) ∧ memR q ci (fm + z.2.1.length) z.2.1.length (cntB true z.2.1) (cntB false z.2.1) s s' r.2.1 := by
        by_cases h24 : z.2.1.length = 24
        · rw [show pMem T (N + 1) z.2.1.length z.1 (kq + z.2.2.1.length) (i0 + z.2.2.2.1.length) = .inl (3, z.1) from if_pos h24]
          have h1 : ¬ (T z.1).1 = 1 := fun e => by rw [e] at hty; exact absurd hty (by decide)
          rw [h24, e_136]
          unfold f_136 b_136_0 b_136_21
          rw [xg_64_2, eR_2, hQ.2.2, ymg_0 hQ.1, if_pos (show nI 24 = 24 from rfl), xg_64_0, xV_58, u_ref3 hT hz h1, bN_s]
          exact ⟨Or.inr (Or.inr rfl), _, _, _, _, rfl, offG.rf⟩
        · have h384 := hm.resolve_right h24
          exact x_mem hT hQ hi (Or.inl h384) hl hz (by omega) hty b2 b3 b4 b5 (zz h384).1 (zz h384).2
      cases hd' : pMem T (N + 1) z.2.1.length z.1 (kq + z.2.2.1.length) (i0 + z.2.2.2.1.length) with
      | inl e =>
        rw [hd'] at hx
        obtain ⟨he, s', o', v', ag', hx, r⟩ := hx
        obtain ⟨n, rfl⟩ : ∃ x, n = x + 1 := ⟨n - 1, by omega⟩
        rw [hx, bN_s, n_44 (d := D + 189) (hT.offM hQ.1 r) (in_n0 he)]
        exact ⟨he, _, _, _, _, rfl, r.R (by omega)⟩
      | inr r =>
        rw [hd'] at hx
        obtain ⟨hr, s', v', hx, m⟩ := hx
        have oR : offR q ci fm s s' := m.1.R (by omega)
        have l24 : z.2.1.length < 24 := by
          have : ¬ z.2.1.length = 24 := by
            intro e
            rw [show pMem T (N + 1) z.2.1.length z.1 (kq + z.2.2.1.length) (i0 + z.2.2.2.1.length) = .inl (3, z.1) from if_pos e] at hd'
            cases hd'
          omega
        rw [hx, bN_s, nI_1, ← rAg_app]
        have el : (z.2.1 ++ [r.2.1]).length = z.2.1.length + 1 := by rw [List.length_append]; rfl
        have k := ih n (r.1, z.2.1 ++ [r.2.1], z.2.2.1 ++ r.2.2.1, z.2.2.2.1 ++ r.2.2.2.1, z.2.2.2.2 ++ r.2.2.2.2) s' v' (hT.off hQ.1 oR) (hQ.off oR) (MI.step hQ.1 hM m) (by rw [el]; omega) (by rw [el]; omega) (by omega) hr
        rw [el] at k
        show match pMems T (N + 1) kq i0 f (r.1, z.2.1 ++ [r.2.1], z.2.2.1 ++ r.2.2.1, z.2.2.2.1 ++ r.2.2.2.1, z.2.2.2.2 ++ r.2.2.2.2) with
          | .inl e => _
          | .inr y => _
        cases hp : pMems T (N + 1) kq i0 f (r.1, z.2.1 ++ [r.2.1], z.2.2.1 ++ r.2.2.1, z.2.2.2.1 ++ r.2.2.2.1, z.2.2.2.2 ++ r.2.2.2.2) with
        | inl e =>
          rw [hp] at k
          obtain ⟨he, s2, o', v2, ag', k, w⟩ := k
          exact ⟨he, s2, o', v2, ag', k, oR.tr w⟩
        | inr y =>
          rw [hp] at k
          refine ⟨k.1, k.2.1, fun h => ?_, fun h => ?_⟩
          · obtain ⟨k1, s2, v2, k2, w, k3, k4⟩ := k.2.2.1 h
            have hq' : q = 2 ∨ q = 30 := hQ.1
            exact ⟨k1, s2, v2, k2, oR.tr w, k3, fun h hh => (k4 h hh).trans (m.1.1 h 384 (by unfold chM; omega))⟩
          · obtain ⟨s2, o', v2, ag', k2, w⟩ := k.2.2.2 h
            exact ⟨s2, o', v2, ag', k2, oR.tr w⟩
    · rw [if_neg hty, if_neg hty]
      unfold b_126_69
      rw [xV_64]
      refine ⟨hz, hl, fun h => ?_, fun h => ?_⟩
      · have hl1 := lt_of hT hz h (by decide)
        rw [u_close (q := 0) hT hz h (by decide), bN_s]
        exact ⟨hl1, s, v, rfl, offR.rf, hM, fun _ _ => rfl⟩
      · rw [u_close2 hT hz h, bN_s]
        exact ⟨s, _, _, _, rfl, offR.rf⟩
end MJ62
