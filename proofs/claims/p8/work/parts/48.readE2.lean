/-! ===== the class reads an E so: all parts of it ===== -/
section MJ48
variable {T : TT} {d N c : Nat} {s : mjSt3} {f p o v : Int32} {ag : Nat → Int32}
theorem lq_146 (hT : TH T N s) {D kq q0 : Nat} {ra : Nat → Nat → PX} (hD : 4 ≤ D) (hr : ∀ (c kq : Nat) (ag : Nat → Int32), c ≤ N → (T c).1 = 40 → eOK s T N (mjF D 148 [.ref 64] (mjW0 (eR s (c, 0, p, nI q0, v, ag)))) p (nI q0) v ag (ra c kq)) (hs : ∀ (c kq : Nat) (y : PZ), ra c kq = .inr y → y.2.1 = 3) :
    ∀ (k i q : Nat) (z : PZ), i + k = N + 1 → k < q → z.1 ≤ N → eOK s T N (L_146_7 (mjF D) q 64 z.2.1 (nI i) (mjW0 (eR s (z.1, 0, p, nI q0, v, rAg z.2.2.2.2 ag)))) p (nI q0) v ag (pPost T ra kq k z) := by
  obtain ⟨D, rfl⟩ : ∃ e, D = e + 4 := ⟨D - 4, by omega⟩
  have h3 := hT.2.1
  intro k
  induction k with
  | zero =>
    intro i q z hi hq hz
    obtain ⟨q, rfl⟩ : ∃ n, q = n + 1 := ⟨q - 1, by omega⟩
    rw [L146_S]
    unfold b_146_7 b_146_113 pPost
    rw [xg_64_0, xV_58, u_size hT hz, bI_s, if_pos (nI_le (by omega) (by omega))]
    exact ⟨hz, rfl⟩
  | succ k ih =>
    intro i q z hi hq hz
    obtain ⟨q, rfl⟩ : ∃ n, q = n + 1 := ⟨q - 1, by omega⟩
    rw [L146_S]
    unfold b_146_7 b_146_113 pPost
    rw [xg_64_0, xV_58, u_size hT hz, bI_s, if_neg (nI_ge (by omega) (by omega)), xg_64_0, xV_58, u_is hT hz, bI_s, i01, xg_64_0, xV_58, u_is hT hz, bI_s, i01]
    have mid : (T z.1).1 = 46 ∨ (T z.1).1 = 20 → (if (T z.1).1 = 46 then b_146_42 (mjF (D + 4)) (L_146_7 (mjF (D + 4)) q) 64 (nI i) (mjW0 (eR s (z.1, 0, p, nI q0, v, rAg z.2.2.2.2 ag))) else if (T z.1).1 = 20 then b_146_42 (mjF (D + 4)) (L_146_7 (mjF (D + 4)) q) 64 (nI i) (mjW0 (eR s (z.1, 0, p, nI q0, v, rAg z.2.2.2.2 ag))) else some (some (.int z.2.1), mjW0 (eR s (z.1, 0, p, nI q0, v, rAg z.2.2.2.2 ag)))) = b_146_42 (mjF (D + 4)) (L_146_7 (mjF (D + 4)) q) 64 (nI i) (mjW0 (eR s (z.1, 0, p, nI q0, v, rAg z.2.2.2.2 ag))) := by
      intro h
      by_cases e : (T z.1).1 = 46
      · rw [if_pos e]
      · rw [if_neg e, if_pos (h.resolve_left e)]
    by_cases h20 : (T z.1).1 = 20
    · have hl : z.1 < N := lt_of hT hz h20 (by decide)
      rw [mid (Or.inr h20), if_pos h20]
      unfold b_146_42
      rw [xg_64_0, xV_58, u_is hT hz, bI_s, i01, if_pos h20, xg_64_0, xV_58, u_skip hT hl, bN_s, xV_64]
      have h := x_kind (d := D + 1) (p := p) (o := nI q0) (v := v) (ag := rAg z.2.2.2.2 ag) hT (c := z.1 + 1) hl
      cases hd : pKind T (z.1 + 1) with
      | inl e =>
        rw [hd] at h
        obtain ⟨he, h⟩ := h
        obtain ⟨q, rfl⟩ : ∃ n, q = n + 1 := ⟨q - 1, by omega⟩
        rw [h, bN_s]
        unfold b_146_107
        rw [n_post7 hT]
        exact ⟨he, _, _, _, rfl⟩
      | inr c' =>
        rw [hd] at h
        obtain ⟨hy, h⟩ := h
        rw [h, bN_s]
        unfold b_146_107
        rw [nI_1]
        exact ih (i + 1) q (c', 0, z.2.2.1 ++ [z.1 + 1], z.2.2.2.1 ++ [(14, (T z.1).2.1, nI (kq + z.2.2.1.length), 0, 0)], z.2.2.2.2) (by omega) (by omega) hy
    · simp only [if_neg h20]
      by_cases h46 : (T z.1).1 = 46
      · have hl : z.1 < N := lt_of hT hz h46 (by decide)
        rw [if_pos h46, if_pos h46]
        unfold b_146_42
        rw [xg_64_0, xV_58, u_is hT hz, bI_s, i01, if_neg h20, xg_64_0, xV_58, u_skip hT hl, bN_s, xg_64_0, xV_58]
        by_cases hn : (T (z.1 + 1)).1 = 3
        · have hl2 : z.1 + 1 < N := lt_of hT (by omega) hn (by decide)
          rw [if_pos hn, u_need hT (by omega) hn (by decide), bN_s, xg_64_0, xV_58, u_is hT (c := z.1 + 1 + 1) (by omega), bI_s, i01]
          by_cases hp : (T (z.1 + 2)).1 = 40
          · rw [if_pos hp, if_pos hp, xV_64]
            have h := hr (z.1 + 2) (kq + z.2.2.1.length) (rAg z.2.2.2.2 ag) (by omega) hp
            cases hd : ra (z.1 + 2) (kq + z.2.2.1.length) with
            | inl e =>
              rw [hd] at h
              obtain ⟨he, w, o', ag', h⟩ := h
              obtain ⟨q, rfl⟩ : ∃ n, q = n + 1 := ⟨q - 1, by omega⟩
              rw [show z.1 + 1 + 1 = z.1 + 2 from rfl, h, bI_s]
              unfold b_146_106 b_146_107
              rw [n_post7 hT]
              exact ⟨he, _, _, _, rfl⟩
            | inr y =>
              have h3' := hs _ _ _ hd
              rw [hd] at h
              obtain ⟨hy, h⟩ := h
              rw [show z.1 + 1 + 1 = z.1 + 2 from rfl, h, bI_s, h3']
              unfold b_146_106 b_146_107
              rw [nI_1, ← rAg_app]
              exact ih (i + 1) q (y.1, 3, z.2.2.1 ++ y.2.2.1, z.2.2.2.1 ++ y.2.2.2.1, z.2.2.2.2 ++ y.2.2.2.2) (by omega) (by omega) hy
          · rw [if_neg hp, if_neg hp]
            unfold b_146_106 b_146_107
            rw [nI_1]
            exact ih (i + 1) q (z.1 + 2, 2, z.2.2.1, z.2.2.2.1 ++ [(10, (T (z.1 + 1)).2.1, 0, 0, (T (z.1 + 1)).2.2.1)], z.2.2.2.2) (by omega) (by omega) (by show z.1 + 2 ≤ N; omega)
        · obtain ⟨q, rfl⟩ : ∃ n, q = n + 1 := ⟨q - 1, by omega⟩
          rw [if_neg hn, u_need2 hT (by omega) hn, bN_s, xg_64_0, xV_58, u_is hT (Nat.le_refl N), bI_s, i01, if_neg (kN hT (by decide))]
          unfold b_146_106 b_146_107
          rw [n_post7 hT]
          exact ⟨F2_in T _, _, _, _, rfl⟩
      · rw [if_neg h46, if_neg h46]
        exact ⟨hz, rfl⟩
/-- behind ARGUMENTS: the ) and their number put -/
def aOK (s : mjSt3) (T : TT) (N : Nat) (u : mjU) (p v : Int32) (ag : Nat → Int32) (o t : Nat) (r : (Nat × Nat) ⊕ (Nat × PZ)) : Prop := match r with
  | .inl e => (e.1 = 1 ∨ e.1 = 2 ∨ e.1 = 3) ∧ ∃ (w o' : Int32) (ag' : Nat → Int32), u = some (some (.int w), mjW0 (eR s (N, nI e.1, (T e.2).2.1, o', v, ag')))
  | .inr y => y.2.1 ≤ N ∧ u = some (some (.int 3), mjW0 (eR s (y.2.1, 0, p, nI o, v, upd (rAg y.2.2.2.2.2 ag) t (nI y.1))))
theorem lq_148 (hT : TH T N s) {D kq q0 t : Nat} {rv : Nat → Nat → PX} (hD : 8 ≤ D) (ht : t ≤ N) (hr : ∀ (c kq : Nat) (ag : Nat → Int32), c ≤ N → eOK s T N (mjF D 142 [.ref 64] (mjW0 (eR s (c, 0, p, nI (q0 + 1), v, ag)))) p (nI (q0 + 1)) v ag (rv c kq)) (hv : ∀ c kq, isVal (T c).1 = false → rv c kq = .inl (F2 T c)) :
    ∀ (k i q : Nat) (z : PZ), i + k = 7 → i ≤ 6 → k < q → z.1 ≤ N → aOK s T N (L_148_37 (mjF D) q 64 (nI t) (nI i) 1 (nI i) (mjW0 (eR s (z.1, 0, p, nI (q0 + 1), v, rAg z.2.2.2.2 ag)))) p v ag q0 t (pArgs T rv kq k i z) := by
  obtain ⟨D, rfl⟩ : ∃ e, D = e + 8 := ⟨D - 8, by omega⟩
  intro k
  induction k with
  | zero => intro i q z hi h6; omega
  | succ k ih =>
    intro i q z hi h6 hq hz
    obtain ⟨q, rfl⟩ : ∃ n, q = n + 1 := ⟨q - 1, by omega⟩
    rw [L148_S]
    unfold b_148_37 pArgs
    rw [if_neg (show ¬ (6 : Int32) < nI i from nI_nlt (a := 6) h6 (by omega)), if_neg (show ¬ (1 : Int32) = 0 by decide)]
    obtain ⟨q, rfl⟩ : ∃ n, q = n + 1 := ⟨q - 1, by omega⟩
    have bad : ∀ (f' p' o' : Int32) (ag' : Nat → Int32), ¬ f' = 0 → b_148_70 (mjF (D + 8)) (L_148_37 (mjF (D + 8)) (q + 1)) 64 (nI t) (nI i) (nI i) (mjW0 (eR s (N, f', p', o', v, ag'))) = some (some (.int 3), mjW0 (eR s (N, f', p', o' - 1, v, upd ag' t (nI (i + 1))))) := by
      intro f' p' o' ag' hf
      unfold b_148_70
      rw [xV_64, n_value hT hf, bI_s, xg_64_0, xV_58, u_is hT (Nat.le_refl N), bI_s, i01, if_neg (kN hT (by decide)), if_neg (kN hT (by decide))]
      unfold b_148_99
      rw [n_args hT hf ht, nI_1]
    by_cases e6 : i = 6
    · subst e6
      rw [if_pos (show nI 6 = 6 from rfl), if_pos rfl, xV_64, u_val hT hz, bI_s, i01]
      by_cases hval : isVal (T z.1).1 = true
      · have h1 : ¬ (T z.1).1 = 1 := fun e => by rw [e] at hval; exact absurd hval (by decide)
        rw [if_pos hval, if_pos hval, xg_64_0, xV_58, u_ref3 hT hz h1, bN_s, bad _ _ _ _ (by decide)]
        exact ⟨Or.inr (Or.inr rfl), _, _, _, rfl⟩
      · rw [if_neg hval, if_neg hval]
        have h := hr z.1 (kq + z.2.2.1.length) (rAg z.2.2.2.2 ag) hz
        rw [hv z.1 _ (by simpa using hval)] at h
        obtain ⟨he, w, o', ag', h⟩ := h
        unfold b_148_70
        rw [xV_64, h, bI_s, xg_64_0, xV_58, u_is hT (Nat.le_refl N), bI_s, i01, if_neg (kN hT (by decide)), if_neg (kN hT (by decide))]
        unfold b_148_99
        rw [n_args hT (F2_n0 T _) ht]
        exact ⟨he, _, _, _, rfl⟩
    · rw [if_neg (show ¬ nI i = 6 from fun e => e6 ((nI_eq (a := i) (b := 6) (by omega) (by omega)).mp e)), if_neg e6]
      have h := hr z.1 (kq + z.2.2.1.length) (rAg z.2.2.2.2 ag) hz
      unfold b_148_70
      cases hd : rv z.1 (kq + z.2.2.1.length) with
      | inl e =>
        rw [hd] at h
        obtain ⟨he, w, o', ag', h⟩ := h
        rw [xV_64, h, bI_s, xg_64_0, xV_58, u_is hT (Nat.le_refl N), bI_s, i01, if_neg (kN hT (by decide)), if_neg (kN hT (by decide))]
        unfold b_148_99
        rw [n_args hT (in_n0 he) ht]
        exact ⟨he, _, _, _, rfl⟩
      | inr y =>
        rw [hd] at h
        obtain ⟨hy, h⟩ := h
        rw [xV_64, h, bI_s, xg_64_0, xV_58, u_is hT hy, bI_s, i01, ← rAg_app]
        by_cases h44 : (T y.1).1 = 44
        · have hl : y.1 < N := lt_of hT hy h44 (by decide)
          rw [if_pos h44, xg_64_0, xV_58, u_skip hT hl, bN_s, if_pos h44]
          unfold b_148_99
          rw [nI_1]
          simp only [if_pos h44]
          exact ih (i + 1) (q + 1) (y.1 + 1, 0, z.2.2.1 ++ y.2.2.1, z.2.2.2.1 ++ y.2.2.2.1 ++ [(12, (T z.1).2.1, nI i, 0, 0)], z.2.2.2.2 ++ y.2.2.2.2) (by omega) (by omega) (by omega) hl
        · rw [if_neg h44, if_neg h44]
          unfold b_148_99
          rw [nI_1, L148_S]
          simp only [if_neg h44]
          unfold b_148_37 b_148_105
          rw [if_pos rfl, ite_self, xV_64]
          by_cases h41 : (T y.1).1 = 41
          · have hl : y.1 < N := lt_of hT hy h41 (by decide)
            rw [if_pos h41, u_close hT hy h41 (by decide), bN_s, xg_64_0, xV_58, u_setArg hT ht, bN_s]
            exact ⟨hl, rfl⟩
          · rw [if_neg h41, u_close2 hT hy h41, bN_s, xg_64_0, xV_58, u_setArg hT ht, bN_s]
            exact ⟨F2_in T _, _, _, _, rfl⟩
/-- where no E begins, that is the FAULT -/
theorem pV_not {M f o c kq : Nat} (h : isVal (T c).1 = false) : prE T M (f + 6) 0 o c kq = .inl (F2 T c) := by
  have hv : ¬ ((T c).1 = 3 ∨ (T c).1 = 4 ∨ (T c).1 = 11 ∨ (T c).1 = 12 ∨ (T c).1 = 14 ∨ (T c).1 = 40 ∨ (T c).1 = 45) := by
    intro q
    unfold isVal at h
    rw [decide_eq_true q] at h
    exact absurd h (by decide)
  have a : prE T M (f + 1) 5 o c kq = .inl (F2 T c) := by
    rw [prE_5]
    unfold pAtom
    rw [if_neg (fun q => hv (Or.inl q)), if_neg (fun q => hv (Or.inr (Or.inl q))), if_neg (fun q => hv (Or.inr (Or.inr (Or.inl q)))), if_neg (fun q => hv (Or.inr (Or.inr (Or.inr (Or.inl q))))), if_neg (fun q => hv (Or.inr (Or.inr (Or.inr (Or.inr (Or.inl q)))))), if_neg (fun q => hv (Or.inr (Or.inr (Or.inr (Or.inr (Or.inr (Or.inl q)))))))]
  rw [prE_0, prE_1, prE_2, prE_3, if_neg (fun q => hv (Or.inr (Or.inr (Or.inr (Or.inr (Or.inr (Or.inr q))))))), prE_4, a]
theorem pCall_3 {rv : Nat → Nat → PX} {o c kq : Nat} {y : PZ} (h : pCall T rv o c kq = .inr y) : y.2.1 = 3 := by
  unfold pCall at h
  by_cases h12 : o = 12
  · rw [if_pos h12] at h; cases h
  · rw [if_neg h12] at h
    by_cases h41 : (T (c + 1)).1 = 41
    · rw [if_pos h41] at h; cases h; rfl
    · rw [if_neg h41] at h
      cases hd : pArgs T rv kq 7 0 (c + 1, 0, [], [], []) with
      | inl e => rw [hd] at h; cases h
      | inr w => rw [hd] at h; cases h; rfl
/-- all parts of an E, by fuel -/
def rdE (T : TT) (N : Nat) (s : mjSt3) (f : Nat) : Prop := ∀ (D q c kq : Nat) (p v : Int32) (ag : Nat → Int32), f + 9 ≤ D → q ≤ 12 → c ≤ N →
  (6 * (12 - q) + 7 ≤ f → eOK s T N (mjF D 142 [.ref 64] (mjW0 (eR s (c, 0, p, nI q, v, ag)))) p (nI q) v ag (prE T (N + 1) f 0 q c kq)) ∧
  (6 * (12 - q) + 6 ≤ f → eOK s T N (mjF D 143 [.ref 64] (mjW0 (eR s (c, 0, p, nI q, v, ag)))) p (nI q) v ag (prE T (N + 1) f 1 q c kq)) ∧
  (6 * (12 - q) + 5 ≤ f → eOK s T N (mjF D 144 [.ref 64] (mjW0 (eR s (c, 0, p, nI q, v, ag)))) p (nI q) v ag (prE T (N + 1) f 2 q c kq)) ∧
  (6 * (12 - q) + 4 ≤ f → eOK s T N (mjF D 145 [.ref 64] (mjW0 (eR s (c, 0, p, nI q, v, ag)))) p (nI q) v ag (prE T (N + 1) f 3 q c kq)) ∧
  (6 * (12 - q) + 3 ≤ f → eOK s T N (mjF D 146 [.ref 64] (mjW0 (eR s (c, 0, p, nI q, v, ag)))) p (nI q) v ag (prE T (N + 1) f 4 q c kq)) ∧
  (6 * (12 - q) + 2 ≤ f → eOK s T N (mjF D 147 [.ref 64] (mjW0 (eR s (c, 0, p, nI q, v, ag)))) p (nI q) v ag (prE T (N + 1) f 5 q c kq)) ∧
  (6 * (12 - q) + 2 ≤ f → (T c).1 = 40 → eOK s T N (mjF D 148 [.ref 64] (mjW0 (eR s (c, 0, p, nI q, v, ag)))) p (nI q) v ag (prE T (N + 1) f 6 q c kq))
theorem rdE_ok (hT : TH T N s) : ∀ f, rdE T N s f
  | 0 => by
    intro D q c kq p v ag hD hq hc
    refine ⟨fun h => ?_, fun h => ?_, fun h => ?_, fun h => ?_, fun h => ?_, fun h => ?_, fun h => ?_⟩ <;> omega
  | f + 1 => by
    have ih := rdE_ok hT f
    intro D q c kq p v ag hD hq hc
    obtain ⟨D, rfl⟩ : ∃ e, D = e + 10 := ⟨D - 10, by omega⟩
    refine ⟨fun h => ?_, fun h => ?_, fun h => ?_, fun h => ?_, fun h => ?_, fun h => ?_, fun h h40 => ?_⟩
    · -- E
      rw [e_142]
      unfold f_142 b_142_0
      rw [xV_64, prE_0]
      have h1 := (ih (D + 9) q c kq p v ag (by omega) hq hc).2.1 (by omega)
      cases hd : prE T (N + 1) f 1 q c kq with
      | inl e =>
        rw [hd] at h1
        obtain ⟨he, w, o', ag', h1⟩ := h1
        rw [h1, bI_s, xg_64_0, xV_58, u_cmp hT (Nat.le_refl N), bI_s, i01, hT.2.2.1, sg0.2.2.1, if_neg (show ¬ false = true by decide)]
        exact ⟨he, _, _, _, rfl⟩
      | inr z =>
        rw [hd] at h1
        obtain ⟨hz, h1⟩ := h1
        rw [h1, bI_s, xg_64_0, xV_58, u_cmp hT hz, bI_s, i01]
        by_cases g : isCmp (T z.1).1 = true
        · have hl : z.1 < N := lt_of hT hz rfl (fun e => by rw [e] at g; exact absurd g (by decide))
          have h2 := (ih (D + 9) q (z.1 + 1) (kq + z.2.2.1.length) p v (rAg z.2.2.2.2 ag) (by omega) hq hl).2.1 (by omega)
          rw [if_pos g, xg_64_0, xV_58, u_skip hT hl, bN_s, xV_64]
          simp only [if_pos g]
          cases hd2 : prE T (N + 1) f 1 q (z.1 + 1) (kq + z.2.2.1.length) with
          | inl e =>
            rw [hd2] at h2
            obtain ⟨he, w, o', ag', h2⟩ := h2
            rw [h2, bI_s]
            exact ⟨he, _, _, _, rfl⟩
          | inr y =>
            rw [hd2] at h2
            obtain ⟨hy, h2⟩ := h2
            rw [h2, bI_s, ← rAg_app]
            exact ⟨hy, rfl⟩
        · rw [if_neg g]
          simp only [if_neg g]
          exact ⟨hz, rfl⟩
    · -- SUM
      rw [e_143]
      unfold f_143 b_143_0
      rw [xV_64, prE_1, show mjN = 99999999 + 1 from rfl]
      have h1 := (ih (D + 9) q c kq p v ag (by omega) hq hc).2.2.1 (by omega)
      cases hd : prE T (N + 1) f 2 q c kq with
      | inl e =>
        rw [hd] at h1
        obtain ⟨he, w, o', ag', h1⟩ := h1
        rw [h1, bI_s, n_sum7 hT]
        exact ⟨he, _, _, _, rfl⟩
      | inr z =>
        rw [hd] at h1
        obtain ⟨hz, h1⟩ := h1
        rw [h1, bI_s]
        exact lq_143 hT (by omega) (fun c' kq' ag' hc' => (ih (D + 9) q c' kq' p v ag' (by omega) hq hc').2.2.1 (by omega)) (N + 1) 0 _ z (by omega) (by have := hT.2.1; omega) hz
    · -- PRODUCT
      rw [e_144]
      unfold f_144 b_144_0
      rw [xV_64, prE_2, show mjN = 99999999 + 1 from rfl]
      have h1 := (ih (D + 9) q c kq p v ag (by omega) hq hc).2.2.2.1 (by omega)
      cases hd : prE T (N + 1) f 3 q c kq with
      | inl e =>
        rw [hd] at h1
        obtain ⟨he, w, o', ag', h1⟩ := h1
        rw [h1, bI_s, n_pro7 hT]
        exact ⟨he, _, _, _, rfl⟩
      | inr z =>
        rw [hd] at h1
        obtain ⟨hz, h1⟩ := h1
        rw [h1, bI_s]
        exact lq_144 hT (by omega) (fun c' kq' ag' hc' => (ih (D + 9) q c' kq' p v ag' (by omega) hq hc').2.2.2.1 (by omega)) (N + 1) 0 _ z (by omega) (by have := hT.2.1; omega) hz
    · -- UNIT
      rw [e_145]
      unfold f_145 b_145_0
      rw [xg_64_0, xV_58, u_is hT hc, bI_s, i01, prE_3]
      by_cases h45 : (T c).1 = 45
      · have hl := lt_of hT hc h45 (by decide)
        rw [if_pos h45, if_pos h45, xV_64]
        by_cases h12 : q = 12
        · subst h12
          rw [if_pos rfl, u_open3 hT hc h45 (by decide), bN_s, xV_64, n_unit hT (by decide), bI_s, xg_64_9, xp_64_9, wR_o]
          exact ⟨Or.inr (Or.inr rfl), _, _, _, rfl⟩
        · rw [if_neg h12, u_open hT hc h45 (by decide) (by omega), bN_s, xV_64]
          have h1 := (ih (D + 9) (q + 1) (c + 1) kq p v ag (by omega) (by omega) hl).2.2.2.1 (by omega)
          cases hd : prE T (N + 1) f 3 (q + 1) (c + 1) kq with
          | inl e =>
            rw [hd] at h1
            obtain ⟨he, w, o', ag', h1⟩ := h1
            rw [h1, bI_s, xg_64_9, xp_64_9, wR_o]
            exact ⟨he, _, _, _, rfl⟩
          | inr y =>
            rw [hd] at h1
            obtain ⟨hy, h1⟩ := h1
            rw [h1, bI_s, xg_64_9, xp_64_9, wR_o, eR_o, nI_pred]
            exact ⟨hy, rfl⟩
      · rw [if_neg h45, if_neg h45, xV_64]
        have h1 := (ih (D + 9) q c kq p v ag (by omega) hq hc).2.2.2.2.1 (by omega)
        cases hd : prE T (N + 1) f 4 q c kq with
        | inl e =>
          rw [hd] at h1
          obtain ⟨he, w, o', ag', h1⟩ := h1
          rw [h1, bI_s]
          exact ⟨he, _, _, _, rfl⟩
        | inr z =>
          rw [hd] at h1
          obtain ⟨hz, h1⟩ := h1
          rw [h1, bI_s]
          exact ⟨hz, rfl⟩
    · -- POST
      rw [e_146]
      unfold f_146 b_146_0
      rw [xV_64, prE_4, show mjN = 99999999 + 1 from rfl]
      have h1 := (ih (D + 9) q c kq p v ag (by omega) hq hc).2.2.2.2.2.1 (by omega)
      cases hd : prE T (N + 1) f 5 q c kq with
      | inl e =>
        rw [hd] at h1
        obtain ⟨he, w, o', ag', h1⟩ := h1
        rw [h1, bI_s, n_post7 hT]
        exact ⟨he, _, _, _, rfl⟩
      | inr z =>
        rw [hd] at h1
        obtain ⟨hz, h1⟩ := h1
        rw [h1, bI_s]
        refine lq_146 hT (by omega) (fun c' kq' ag' hc' h40 => (ih (D + 9) q c' kq' p v ag' (by omega) hq hc').2.2.2.2.2.2 (by omega) h40) ?_ (N + 1) 0 _ z (by omega) (by have := hT.2.1; omega) hz
        intro c' kq' y hy
        cases f with
        | zero => omega
        | succ f => exact pCall_3 (by rw [← prE_6]; exact hy)
    · -- ATOM
      rw [e_147]
      unfold f_147 b_147_0 b_147_64
      rw [xg_64_0, xV_58, u_kind hT hc, bI_s, prE_5]
      unfold pAtom
      by_cases k3 : (T c).1 = 3
      · have hl := lt_of hT hc k3 (by decide)
        rw [if_pos k3, if_pos k3, xg_64_0, xV_58, u_skip hT hl, bN_s]
        exact ⟨hl, rfl⟩
      rw [if_neg k3, if_neg k3]
      by_cases k4 : (T c).1 = 4
      · have hl := lt_of hT hc k4 (by decide)
        rw [if_pos k4, if_pos k4, xg_64_0, xV_58, u_skip hT hl, bN_s]
        exact ⟨hl, rfl⟩
      rw [if_neg k4, if_neg k4]
      by_cases k11 : (T c).1 = 11
      · have hl := lt_of hT hc k11 (by decide)
        rw [if_pos k11, if_pos k11, xg_64_0, xV_58, u_skip hT hl, bN_s]
        exact ⟨hl, rfl⟩
      rw [if_neg k11, if_neg k11]
      by_cases k12 : (T c).1 = 12
      · have hl := lt_of hT hc k12 (by decide)
        rw [if_pos k12, if_pos k12, xg_64_0, xV_58, u_skip hT hl, bN_s]
        exact ⟨hl, rfl⟩
      rw [if_neg k12, if_neg k12]
      by_cases k14 : (T c).1 = 14
      · have hl := lt_of hT hc k14 (by decide)
        rw [if_pos k14, if_pos k14, xg_64_0, xV_58, u_skip hT hl, bN_s, xV_64]
        have h1 := x_kind (d := D + 6) (p := p) (o := nI q) (v := v) (ag := ag) hT (c := c + 1) hl
        cases hd : pKind T (c + 1) with
        | inl e =>
          rw [hd] at h1
          obtain ⟨he, h1⟩ := h1
          rw [h1, bN_s]
          exact ⟨he, _, _, _, rfl⟩
        | inr c' =>
          rw [hd] at h1
          obtain ⟨hy, h1⟩ := h1
          rw [h1, bN_s]
          exact ⟨hy, rfl⟩
      rw [if_neg k14, if_neg k14]
      by_cases k40 : (T c).1 = 40
      · have hl := lt_of hT hc k40 (by decide)
        rw [if_pos k40, if_pos k40, xV_64]
        by_cases h12 : q = 12
        · subst h12
          rw [if_pos rfl, u_open3 hT hc k40 (by decide), bN_s, xV_64, n_value hT (by decide), bI_s, xV_64, u_closeN hT (by decide), bN_s]
          exact ⟨Or.inr (Or.inr rfl), _, _, _, rfl⟩
        · rw [if_neg h12, u_open hT hc k40 (by decide) (by omega), bN_s, xV_64]
          have h1 := (ih (D + 9) (q + 1) (c + 1) kq p v ag (by omega) (by omega) hl).1 (by omega)
          cases hd : prE T (N + 1) f 0 (q + 1) (c + 1) kq with
          | inl e =>
            rw [hd] at h1
            obtain ⟨he, w, o', ag', h1⟩ := h1
            rw [h1, bI_s, xV_64, u_closeN hT (in_n0 he), bN_s]
            exact ⟨he, _, _, _, rfl⟩
          | inr y =>
            rw [hd] at h1
            obtain ⟨hy, h1⟩ := h1
            rw [h1, bI_s, xV_64]
            by_cases h41 : (T y.1).1 = 41
            · have hl2 := lt_of hT hy h41 (by decide)
              rw [u_close hT hy h41 (by decide), bN_s]
              simp only [if_pos h41]
              exact ⟨hl2, rfl⟩
            · rw [u_close2 hT hy h41, bN_s]
              simp only [if_neg h41]
              exact ⟨F2_in T _, _, _, _, rfl⟩
      rw [if_neg k40, if_neg k40, xg_64_0, xV_58, u_ref2 hT hc, bN_s]
      exact ⟨F2_in T _, _, _, _, rfl⟩
    · -- a call's (
      have hl := lt_of hT hc h40 (by decide)
      rw [e_148]
      unfold f_148 b_148_0 b_148_33
      rw [xg_64_0, xV_58, u_now hT hc, bI_s, xV_64, prE_6, show mjN = 99999999 + 1 from rfl]
      unfold pCall
      by_cases h12 : q = 12
      · subst h12
        rw [if_pos rfl, u_open3 hT hc h40 (by decide), bN_s, xg_64_0, xV_58, u_is hT (Nat.le_refl N), bI_s, i01, if_neg (kN hT (by decide)), L148_S]
        unfold b_148_37 b_148_70 b_148_99
        rw [if_neg (show ¬ (6 : Int32) < 0 by decide), if_neg (show ¬ (1 : Int32) = 0 by decide), if_neg (show ¬ (0 : Int32) = 6 by decide), xV_64, n_value hT (by decide), bI_s, xg_64_0, xV_58, u_is hT (Nat.le_refl N), bI_s, if_neg (kN hT (by decide)), if_pos rfl, show 99999999 = 99999998 + 1 from rfl, n_args hT (by decide) hc]
        exact ⟨Or.inr (Or.inr rfl), _, _, _, rfl⟩
      · rw [if_neg h12, u_open hT hc h40 (by decide) (by omega), bN_s, xg_64_0, xV_58, u_is hT (c := c + 1) (by omega), bI_s, i01]
        by_cases h41 : (T (c + 1)).1 = 41
        · have hl2 := lt_of hT (c := c + 1) (by omega) h41 (by decide)
          rw [if_pos h41, if_pos h41, L148_S]
          unfold b_148_37 b_148_105
          rw [if_neg (show ¬ (6 : Int32) < 0 by decide), if_pos rfl, xV_64, u_close hT (c := c + 1) (by omega) h41 (by decide), bN_s, xg_64_0, xV_58, u_setArg hT hc, bN_s]
          exact ⟨by show c + 2 ≤ N; omega, rfl⟩
        · rw [if_neg h41, if_neg h41]
          have h1 := lq_148 (p := p) (v := v) (ag := ag) (kq := kq) (t := c) hT (D := D + 9) (q0 := q) (rv := prE T (N + 1) f 0 (q + 1)) (by omega) hc (fun c' kq' ag' hc' => (ih (D + 9) (q + 1) c' kq' p v ag' (by omega) (by omega) hc').1 (by omega)) (fun c' kq' hv => by
            obtain ⟨f, rfl⟩ : ∃ e, f = e + 6 := ⟨f - 6, by omega⟩
            exact pV_not hv) 7 0 (99999999 + 1) (c + 1, 0, [], [], []) (by omega) (by omega) (by omega) (by show c + 1 ≤ N; omega)
          cases hd : pArgs T (prE T (N + 1) f 0 (q + 1)) kq 7 0 (c + 1, 0, [], [], []) with
          | inl e =>
            rw [hd] at h1
            exact h1
          | inr y =>
            rw [hd] at h1
            refine ⟨h1.1, ?_⟩
            show _ = (some (some (Value.int 3), mjW0 (eR s (y.2.1, 0, p, nI q, v, rAg (y.2.2.2.2.2 ++ [(c, y.1)]) ag))) : mjU)
            rw [rAg_app]
            exact h1.2
end MJ48
