/-! ===== the orders of every E ===== -/
section MJA89
variable {T : TT} {M H P Q : Nat}
theorem gdE.atom {c kq e f g c' : Nat} {sh : Int32} {r : Row} (hr : r.1 = 3 ∨ r.1 = 4 ∨ r.1 = 5 ∨ r.1 = 6) (he : 1 ≤ e) (hg : 1 ≤ g) {ag : List (Nat × Nat)} : gdE T c kq e f g (c', sh, [], [r], ag) := by
  have nx : ∀ x, hxE r x = (x.1, x.2.1 + 1, x.2.2.1, x.2.2.2 + 1) := fun x => by unfold hxE; rw [if_pos hr]
  refine ⟨kdR.nil, fun h p q H P Q x1 x2 x3 => ⟨⟨⟨?_, fun x => ?_, ?_⟩, trivial⟩, ?_⟩⟩
  · rcases hr with e | e | e | e <;> · rw [e]; decide
  · rcases hr with e | e | e | e <;> · rw [e] at x; exact absurd x (by decide)
  · rw [nx]
    refine ⟨?_, ?_, ?_, loE_0 (by rcases hr with e | e | e | e <;> · rw [e]; decide)⟩ <;> dsimp only <;> omega
  · show hxE r _ = _
    rw [nx]
    rfl
theorem gdE.make {c kq e f g c' : Nat} {sh : Int32} {r : Row} {t : Nat} (hk : pKind T t = .inr c') (hc : c ≤ t) (hr : r.1 = 7) (ha : r.2.2.1 = nI kq) (he : 1 ≤ e) (hg : 1 ≤ g) {ag : List (Nat × Nat)} : gdE T c kq e f g (c', sh, [t], [r], ag) := by
  have nx : ∀ x, hxE r x = (x.1 + 1, x.2.1 + 1, x.2.2.1, x.2.2.2 + 1) := fun x => by unfold hxE; rw [hr, if_neg (by decide), if_pos rfl]
  have kl := pKind_len hk
  refine ⟨kdR.one hk hc (by show t < c'; omega), fun h p q H P Q x1 x2 x3 => ⟨⟨⟨by rw [hr]; decide, fun _ => ha, ?_⟩, trivial⟩, ?_⟩⟩
  · rw [nx]
    refine ⟨?_, ?_, ?_, loE_0 (by rw [hr]; decide)⟩ <;> dsimp only <;> omega
  · show hxE r _ = _
    rw [nx]
    rfl
theorem gdC.mk {c kq e f g n c' : Nat} {sh : Int32} {ks : List Nat} {os : List Row} {ra rc : Row} {ag ag' : List (Nat × Nat)} (hz : gdA T (c + 1) kq e f g n (c', sh, ks, os, ag')) (hra : ra.1 = 11) (hrb : ra.2.2.2.1 = nI n) (hrc : rc.1 = 13) (hn : rc.2.2.1 = nI n) (h6 : n ≤ 6) (he : 1 ≤ e) (hg : 1 ≤ g) : gdC T c kq e f g (c', 3, ks, ra :: (os ++ [rc]), ag) := by
  refine ⟨hz.1.mono (by omega) (Nat.le_refl _), fun h p q H P Q x1 x2 x3 => ?_⟩
  obtain ⟨a1, a2⟩ := hz.2 n h p (q + 1) H P Q (Nat.le_refl _) h6 x1 (by omega) (by omega)
  have n1 : hxE ra (kq, h + 1, p, q + 1) = (kq, h, (n, 0) :: p, q + 1) := by rw [hx_11 hra, hrb, nN_nI (by omega)]; rfl
  have n2 : hxE rc (kq + ks.length, h, (n, n) :: p, q + 1 + n) = (kq + ks.length, h + 1, p, q + 1) := by
    rw [hx_13 hrc, hn, nN_nI (by omega)]
    dsimp only
    rw [show q + 1 + n - n = q + 1 by omega]
    rfl
  have a2' : fdE os (kq, h, (n, 0) :: p, q + 1) = (kq + ks.length, h, (n, n) :: p, q + 1 + n) := a2
  constructor
  · refine ⟨⟨by rw [hra]; decide, fun x => by rw [hra] at x; exact absurd x (by decide), ?_⟩, ?_⟩
    · rw [n1]
      refine ⟨by dsimp only; omega, by show p.length + 1 ≤ P; omega, by dsimp only; omega, loE_11 hra (by dsimp only; omega) (by dsimp only; omega) ⟨n, h6, hrb⟩⟩
    · rw [n1]
      show scE H P Q (os ++ [rc]) _
      rw [scE_app, a2']
      refine ⟨a1, ⟨by rw [hrc]; decide, fun x => by rw [hrc] at x; exact absurd x (by decide), ?_⟩, trivial⟩
      rw [n2]
      refine ⟨by dsimp only; omega, by dsimp only; omega, by dsimp only; omega, loE_13 hrc ⟨n, p, rfl, hn, h6, by dsimp only; omega⟩⟩
  · show fdE (os ++ [rc]) (hxE ra (kq, h + 1, p, q + 1)) = _
    rw [n1, fdE_app, a2']
    exact n2
theorem prE_gd : ∀ (f tag o c kq : Nat) (y : PZ), o ≤ 12 → prE T M f tag o c kq = .inr y → (tag ≤ 5 → gdE T c kq (1 + 3 * (12 - o) + (3 - tag)) (12 - o) (1 + 9 * (12 - o) + (3 - tag)) y) ∧ (tag = 6 → o ≤ 11 ∧ gdC T c kq (1 + 3 * (12 - o)) (11 - o) (4 + 9 * (11 - o)) y) := by
  intro f
  induction f with
  | zero => intro tag o c kq y _ h; cases h
  | succ f ih =>
    intro tag o c kq y ho h
    refine ⟨fun ht => ?_, fun ht => ?_⟩
    · match tag, ht with
      | 0, _ =>
        rw [prE_0] at h
        cases hd : prE T M f 1 o c kq with
        | inl e => rw [hd] at h; cases h
        | inr z =>
          rw [hd] at h
          have hz := (ih 1 o c kq z ho hd).1 (by omega)
          have lz := (prE_ag f 1 o c kq z (by omega) hd).1
          by_cases g : isCmp (T z.1).1 = true
          · simp only [if_pos g] at h
            cases hd2 : prE T M f 1 o (z.1 + 1) (kq + z.2.2.1.length) with
            | inl e => rw [hd2] at h; cases h
            | inr w =>
              rw [hd2] at h
              have hw := (ih 1 o _ _ w ho hd2).1 (by omega)
              have lw := (prE_ag f 1 o _ _ w (by omega) hd2).1
              cases h
              exact gdE.two (hz.mono (by omega) (Nat.le_refl _) (by omega)) hw (by omega) (by omega) rfl (by omega) (by omega)
          · simp only [if_neg g] at h
            cases h
            exact hz.mono (by omega) (Nat.le_refl _) (by omega)
      | 1, _ =>
        rw [prE_1] at h
        cases hd : prE T M f 2 o c kq with
        | inl e => rw [hd] at h; cases h
        | inr z =>
          rw [hd] at h
          have hz := (ih 2 o c kq z ho hd).1 (by omega)
          have lz := (prE_ag f 2 o c kq z (by omega) hd).1
          exact pLoop_gd (by omega) (by omega) (fun c kq y hy => ⟨(prE_ag f 2 o c kq y (by omega) hy).1, (ih 2 o c kq y ho hy).1 (by omega)⟩) M z y (by omega) (hz.mono (by omega) (Nat.le_refl _) (by omega)) h
      | 2, _ =>
        rw [prE_2] at h
        cases hd : prE T M f 3 o c kq with
        | inl e => rw [hd] at h; cases h
        | inr z =>
          rw [hd] at h
          have hz := (ih 3 o c kq z ho hd).1 (by omega)
          have lz := (prE_ag f 3 o c kq z (by omega) hd).1
          exact pLoop_gd (by omega) (by omega) (fun c kq y hy => ⟨(prE_ag f 3 o c kq y (by omega) hy).1, (ih 3 o c kq y ho hy).1 (by omega)⟩) M z y (by omega) (hz.mono (by omega) (Nat.le_refl _) (by omega)) h
      | 3, _ =>
        rw [prE_3] at h
        by_cases g : (T c).1 = 45
        · rw [if_pos g] at h
          by_cases g2 : o = 12
          · rw [if_pos g2] at h; cases h
          · rw [if_neg g2] at h
            cases hd : prE T M f 3 (o + 1) (c + 1) kq with
            | inl e => rw [hd] at h; cases h
            | inr z =>
              rw [hd] at h
              have hz := (ih 3 (o + 1) (c + 1) kq z (by omega) hd).1 (by omega)
              cases h
              have hz' : gdE T c kq (1 + 3 * (12 - o) + (3 - 3)) (12 - o) (1 + 9 * (12 - o) + (3 - 3)) z := ⟨hz.1.mono (by omega) (Nat.le_refl _), (hz.mono (by omega) (by omega) (by omega)).2⟩
              exact gdE.row hz' (Nat.le_refl _) (Or.inr (Or.inr rfl)) (by omega) (by omega)
        · rw [if_neg g] at h
          exact (ih 4 o c kq y ho h).1 (by omega)
      | 4, _ =>
        rw [prE_4] at h
        cases hd : prE T M f 5 o c kq with
        | inl e => rw [hd] at h; cases h
        | inr z =>
          rw [hd] at h
          have hz := (ih 5 o c kq z ho hd).1 (by omega)
          have lz := (prE_ag f 5 o c kq z (by omega) hd).1
          exact pPost_gd (e0 := 1 + 3 * (12 - o)) (f0 := 11 - o) (g0 := 4 + 9 * (11 - o)) (by omega) (by omega) (fun c kq y hy => by
            obtain ⟨o11, gc⟩ := (ih 6 o c kq y ho hy).2 rfl
            exact ⟨(prE_ag f 6 o c kq y (by omega) hy).1, gc, by omega, by omega, by omega⟩) M z y (by omega) hz h
      | 5, _ =>
        rw [prE_5] at h
        unfold pAtom at h
        by_cases k3 : (T c).1 = 3
        · rw [if_pos k3] at h; cases h; exact gdE.atom (Or.inr (Or.inr (Or.inr rfl))) (by omega) (by omega)
        rw [if_neg k3] at h
        by_cases k4 : (T c).1 = 4
        · rw [if_pos k4] at h; cases h; exact gdE.atom (Or.inl rfl) (by omega) (by omega)
        rw [if_neg k4] at h
        by_cases k11 : (T c).1 = 11
        · rw [if_pos k11] at h; cases h; exact gdE.atom (Or.inr (Or.inl rfl)) (by omega) (by omega)
        rw [if_neg k11] at h
        by_cases k12 : (T c).1 = 12
        · rw [if_pos k12] at h; cases h; exact gdE.atom (Or.inr (Or.inr (Or.inl rfl))) (by omega) (by omega)
        rw [if_neg k12] at h
        by_cases k14 : (T c).1 = 14
        · rw [if_pos k14] at h
          cases hd : pKind T (c + 1) with
          | inl e => rw [hd] at h; cases h
          | inr c' =>
            rw [hd] at h
            cases h
            exact gdE.make hd (by omega) rfl rfl (by omega) (by omega)
        rw [if_neg k14] at h
        by_cases k40 : (T c).1 = 40
        · rw [if_pos k40] at h
          by_cases g2 : o = 12
          · rw [if_pos g2] at h; cases h
          · rw [if_neg g2] at h
            cases hd : prE T M f 0 (o + 1) (c + 1) kq with
            | inl e => rw [hd] at h; cases h
            | inr z =>
              rw [hd] at h
              have hz := (ih 0 (o + 1) (c + 1) kq z (by omega) hd).1 (by omega)
              by_cases g3 : (T z.1).1 = 41
              · simp only [if_pos g3] at h
                cases h
                have hz' : gdE T c kq (1 + 3 * (12 - o) + (3 - 5)) (12 - o) (1 + 9 * (12 - o) + (3 - 5)) z := ⟨hz.1.mono (by omega) (Nat.le_refl _), (hz.mono (by omega) (by omega) (by omega)).2⟩
                exact gdE.row hz' (by omega) (Or.inr (Or.inl rfl)) (by omega) (by omega)
              · simp only [if_neg g3] at h; cases h
        · rw [if_neg k40] at h; cases h
    · subst ht
      rw [prE_6] at h
      unfold pCall at h
      by_cases g2 : o = 12
      · rw [if_pos g2] at h; cases h
      · rw [if_neg g2] at h
        refine ⟨by omega, ?_⟩
        by_cases g3 : (T (c + 1)).1 = 41
        · rw [if_pos g3] at h
          cases h
          have h0 : gdA T (c + 1) kq (1 + 3 * (12 - o)) (11 - o) (4 + 9 * (11 - o)) 0 (c + 2, 0, [], [], []) := ⟨kdR.nil, fun n h p q H P Q _ _ _ _ _ => ⟨trivial, rfl⟩⟩
          exact gdC.mk (os := []) h0 rfl rfl rfl rfl (by omega) (by omega) (by omega)
        · rw [if_neg g3] at h
          cases hd : pArgs T (prE T M f 0 (o + 1)) kq 7 0 (c + 1, 0, [], [], []) with
          | inl e => rw [hd] at h; cases h
          | inr w =>
            rw [hd] at h
            have ha := pArgs_gd (T := T) (c := c + 1) (kq := kq) (e := 1 + 3 * (12 - o)) (f := 11 - o) (g := 4 + 9 * (11 - o)) (fun c kq y hy => ⟨(prE_ag f 0 (o + 1) c kq y (by omega) hy).1, ((ih 0 (o + 1) c kq y (by omega) hy).1 (by omega)).mono (by omega) (by omega) (by omega)⟩) (by omega) 7 0 (c + 1, 0, [], [], []) w (Nat.le_refl _) (by omega) ⟨kdR.nil, fun n h p q H P Q _ _ _ _ _ => ⟨trivial, rfl⟩⟩ hd
            cases h
            exact gdC.mk ha.2 rfl rfl rfl rfl ha.1 (by omega) (by omega)
theorem prV_gd {o c kq : Nat} {y : PZ} (ho : o ≤ 12) (h : prV T M o c kq = .inr y) : gdE T c kq 40 12 112 y := ((prE_gd 100 0 o c kq y ho h).1 (by omega)).mono (by omega) (by omega) (by omega)
end MJA89
