/-! ===== what was read of a TEXT ===== -/
/-- a CLASS's head as it was read -/
def HDk (T : TT) (N : Nat) (hd : HD) : Prop := ((T hd.1).1 = 2 ∧ hd.1 ≤ N ∧ 1 ≤ hd.2.1 ∧ hd.2.1 ≤ 5 ∧ ∀ i, i < hd.2.1 → (T (hd.1 + 2 + 2 * i)).1 = 3 ∧ hd.1 + 2 + 2 * i ≤ N) ∧ (¬ hd.2.2.1 = 0 → KDk T N hd.2.2.1) ∧ hd.2.2.2.2 ≤ 8 ∧ ∀ i, i < hd.2.2.2.2 → (T (hd.2.2.2.1 + 4 * i)).1 = 3 ∧ (T (hd.2.2.2.1 + 4 * i + 2)).1 = 3 ∧ hd.2.2.2.1 + 4 * i + 2 ≤ N
section MJA58
variable {T : TT} {M N k0 : Nat}
theorem pNames_ok (h0 : (T N).1 = 0) : ∀ (f k c : Nat) (a : Nat × Nat), f + k = 6 → 1 ≤ f → c ≤ N → pNames T f k c = .inr a → k < a.1 ∧ a.1 ≤ 5 ∧ a.2 = c + 2 * (a.1 - k) ∧ a.2 ≤ N ∧ ∀ i, i < a.1 - k → (T (c + 2 * i)).1 = 3 ∧ c + 2 * i ≤ N
  | 0, k, c, a, hf, h1, hc, h => by omega
  | f + 1, k, c, a, hf, h1, hc, h => by
    unfold pNames at h
    by_cases g3 : (T c).1 = 3
    · rw [if_pos g3] at h
      have c1 := lt_z h0 hc g3 (by decide)
      by_cases g5 : k = 5
      · rw [if_pos g5] at h; cases h
      rw [if_neg g5] at h
      by_cases g44 : (T (c + 1)).1 = 44
      · rw [if_pos g44] at h
        have c2 := lt_z h0 (show c + 1 ≤ N by omega) g44 (by decide)
        obtain ⟨a1, a2, a3, a4, a5⟩ := pNames_ok h0 f (k + 1) (c + 2) a (by omega) (by omega) (by omega) h
        refine ⟨by omega, a2, by omega, a4, fun i hi => ?_⟩
        cases i with
        | zero => exact ⟨g3, hc⟩
        | succ i =>
          have := a5 i (by omega)
          rw [show c + 2 + 2 * i = c + 2 * (i + 1) by omega] at this
          exact this
      · rw [if_neg g44] at h
        by_cases g93 : (T (c + 1)).1 = 93
        · rw [if_pos g93] at h
          have c2 := lt_z h0 (show c + 1 ≤ N by omega) g93 (by decide)
          cases h
          refine ⟨by show k < k + 1; omega, by show k + 1 ≤ 5; omega, by show c + 2 = c + 2 * (k + 1 - k); omega, by show c + 2 ≤ N; omega, fun i hi => ?_⟩
          have hi' : i < k + 1 - k := hi
          have e : i = 0 := by omega
          subst e
          exact ⟨g3, hc⟩
        · rw [if_neg g93] at h; cases h
    · rw [if_neg g3] at h; cases h
theorem pIns_ok (h0 : (T N).1 = 0) : ∀ (f k c : Nat) (a : Nat × Nat), f + k = 9 → 1 ≤ f → c ≤ N → pIns T f k c = .inr a → k < a.1 ∧ a.1 ≤ 8 ∧ c < a.2 ∧ a.2 ≤ N ∧ ∀ i, i < a.1 - k → (T (c + 4 * i)).1 = 3 ∧ (T (c + 4 * i + 2)).1 = 3 ∧ c + 4 * i + 2 ≤ N
  | 0, k, c, a, hf, h1, hc, h => by omega
  | f + 1, k, c, a, hf, h1, hc, h => by
    unfold pIns at h
    by_cases g3 : (T c).1 = 3
    · rw [if_pos g3] at h
      have c1 := lt_z h0 hc g3 (by decide)
      by_cases g5 : k = 8
      · rw [if_pos g5] at h; cases h
      rw [if_neg g5] at h
      by_cases g8 : (T (c + 1)).1 = 8
      · rw [if_pos g8] at h
        have c2 := lt_z h0 (show c + 1 ≤ N by omega) g8 (by decide)
        by_cases g33 : (T (c + 2)).1 = 3
        · rw [if_pos g33] at h
          have c3 := lt_z h0 (show c + 2 ≤ N by omega) g33 (by decide)
          by_cases g44 : (T (c + 3)).1 = 44
          · rw [if_pos g44] at h
            have c4 := lt_z h0 (show c + 3 ≤ N by omega) g44 (by decide)
            cases f with
            | zero => omega
            | succ f =>
              obtain ⟨a1, a2, a3, a4, a5⟩ := pIns_ok h0 (f + 1) (k + 1) (c + 4) a (by omega) (by omega) (by omega) h
              refine ⟨by omega, a2, by omega, a4, fun i hi => ?_⟩
              cases i with
              | zero => exact ⟨g3, g33, by omega⟩
              | succ i =>
                have := a5 i (by omega)
                rw [show c + 4 + 4 * i = c + 4 * (i + 1) by omega] at this
                exact this
          · rw [if_neg g44] at h
            cases h
            refine ⟨by show k < k + 1; omega, by show k + 1 ≤ 8; omega, by show c < c + 3; omega, by show c + 3 ≤ N; omega, fun i hi => ?_⟩
            have hi' : i < k + 1 - k := hi
            have e : i = 0 := by omega
            subst e
            exact ⟨g3, g33, by omega⟩
        · rw [if_neg g33] at h; cases h
      · rw [if_neg g8] at h; cases h
    · rw [if_neg g3] at h; cases h
theorem pHead_ok {n c : Nat} {h : Nat × HD} (h0 : (T N).1 = 0) (hc : c < N) (hh : pHead T n c = .inr h) : HDk T N h.2 ∧ c + 4 < h.1 ∧ h.1 ≤ N ∧ 4 * (hdK h.2).length ≤ h.1 - c ∧ ¬ n = 16 ∧ h.2.1 = c + 1 ∧ (¬ h.2.2.2.1 = 0 → h.2.1 < h.2.2.2.1 ∧ h.2.2.2.1 < h.1) := by
  unfold pHead at hh
  by_cases e16 : n = 16
  · rw [if_pos e16] at hh; cases hh
  rw [if_neg e16] at hh
  by_cases g2 : (T (c + 1)).1 = 2
  · rw [if_pos g2] at hh
    have c1 := lt_z h0 (show c + 1 ≤ N by omega) g2 (by decide)
    by_cases g91 : (T (c + 2)).1 = 91
    · rw [if_pos g91] at hh
      have c2 := lt_z h0 (show c + 2 ≤ N by omega) g91 (by decide)
      cases hn : pNames T 6 0 (c + 3) with
      | inl e => rw [hn] at hh; cases hh
      | inr a =>
        rw [hn] at hh
        dsimp only at hh
        obtain ⟨n1, n2, n3, n4, n5⟩ := pNames_ok h0 6 0 (c + 3) a (by omega) (by omega) (by omega) hn
        cases ha : pAbove T a.2 with
        | inl e => rw [ha] at hh; cases hh
        | inr x =>
          rw [ha] at hh
          dsimp only at hh
          have A : (x ≤ N ∧ a.2 ≤ x) ∧ ((T a.2).1 = 6 → KDk T N (a.2 + 1) ∧ a.2 + 4 ≤ x) := by
            unfold pAbove at ha
            by_cases g6 : (T a.2).1 = 6
            · rw [if_pos g6] at ha
              have c3 := lt_z h0 n4 g6 (by decide)
              obtain ⟨k1, k2⟩ := pKind_ok h0 (show a.2 + 1 ≤ N by omega) ha
              have k3 := k1.2.2.2.1
              have k4 := pKind_len ha
              exact ⟨⟨by omega, by omega⟩, fun _ => ⟨k1, by omega⟩⟩
            · rw [if_neg g6] at ha
              cases ha
              exact ⟨⟨n4, Nat.le_refl _⟩, fun g => absurd g g6⟩
          obtain ⟨⟨x1, x2⟩, x3⟩ := A
          cases hw : pWhere T x with
          | inl e => rw [hw] at hh; cases hh
          | inr w =>
            rw [hw] at hh
            dsimp only at hh
            have W : x ≤ w.2 ∧ w.2 ≤ N ∧ w.1 ≤ 8 ∧ ∀ i, i < w.1 → (T (x + 1 + 4 * i)).1 = 3 ∧ (T (x + 1 + 4 * i + 2)).1 = 3 ∧ x + 1 + 4 * i + 2 ≤ N := by
              unfold pWhere at hw
              by_cases g7 : (T x).1 = 7
              · rw [if_pos g7] at hw
                have c3 := lt_z h0 x1 g7 (by decide)
                obtain ⟨i1, i2, i3, i4, i5⟩ := pIns_ok h0 9 0 (x + 1) w (by omega) (by omega) (by omega) hw
                exact ⟨by omega, i4, i2, fun i hi => i5 i (by omega)⟩
              · rw [if_neg g7] at hw
                cases hw
                exact ⟨Nat.le_refl _, x1, by show 0 ≤ 8; omega, fun i hi => absurd hi (by show ¬ i < 0; omega)⟩
            obtain ⟨w1, w2, w3, w4⟩ := W
            by_cases g123 : (T w.2).1 = 123
            · rw [if_pos g123] at hh
              have c3 := lt_z h0 w2 g123 (by decide)
              cases hh
              refine ⟨⟨⟨g2, by show c + 1 ≤ N; omega, by show 1 ≤ a.1; omega, n2, fun i hi => ?_⟩, fun hk => ?_, w3, w4⟩, by show c + 4 < w.2 + 1; omega, by show w.2 + 1 ≤ N; omega, ?_, e16, rfl, ?_⟩
              · have := n5 i (by have : i < a.1 := hi; omega)
                rw [show c + 3 + 2 * i = c + 1 + 2 + 2 * i by omega] at this
                exact this
              · by_cases g6 : (T a.2).1 = 6
                · show KDk T N (if (T a.2).1 = 6 then a.2 + 1 else 0)
                  rw [if_pos g6]
                  exact (x3 g6).1
                · exact absurd (if_neg g6) hk
              · by_cases g6 : (T a.2).1 = 6
                · have e : hdK (c + 1, a.1, if (T a.2).1 = 6 then a.2 + 1 else 0, x + 1, w.1) = [a.2 + 1] := by
                    unfold hdK
                    dsimp only
                    rw [if_pos g6, if_neg (by omega)]
                  rw [e]
                  show 4 * 1 ≤ w.2 + 1 - c
                  omega
                · have e : hdK (c + 1, a.1, if (T a.2).1 = 6 then a.2 + 1 else 0, x + 1, w.1) = [] := by
                    unfold hdK
                    dsimp only
                    rw [if_neg g6, if_pos rfl]
                  rw [e]
                  show 4 * 0 ≤ _
                  omega
              · intro hk
                by_cases g6 : (T a.2).1 = 6
                · have := (x3 g6).2
                  show c + 1 < (if (T a.2).1 = 6 then a.2 + 1 else 0) ∧ (if (T a.2).1 = 6 then a.2 + 1 else 0) < w.2 + 1
                  rw [if_pos g6]
                  omega
                · exact absurd (if_neg g6) hk
            · rw [if_neg g123] at hh; cases hh
    · rw [if_neg g91] at hh; cases hh
  · rw [if_neg g2] at hh; cases hh
theorem prS_le {o c td kq i0 : Nat} {z : PB} (hN : N ≤ 3000) (h0 : (T N).1 = 0) (ho : o ≤ 1) (hc : c ≤ N) (ht : td ≤ 16) (h : prS T (N + 1) 30 0 o c td kq i0 = .inr z) : z.1 ≤ N := by
  have r := (rdS_ok (sTH_ok hN h0) 30 190 o c td kq i0 0 (fun _ => 0) (by omega) (by omega) hc ht).1 (by omega)
  rw [h] at r
  exact r.1
theorem pPars_le (hN : N ≤ 3000) (h0 : (T N).1 = 0) {kq : Nat} : ∀ (f : Nat) (z y : PP), z.1 ≤ N → pPars T kq f z = .inr y → y.1 ≤ N
  | 0, z, y, hz, h => by cases h
  | f + 1, z, y, hz, h => by
    unfold pPars at h
    by_cases g : tyS (T z.1).1 = true ∧ z.2.1.length = 6
    · rw [if_pos g] at h; cases h
    rw [if_neg g] at h
    cases hp : pType T z.1 with
    | inl e => rw [hp] at h; cases h
    | inr a =>
      rw [hp] at h
      dsimp only at h
      have ha := pType_le hN h0 hz hp
      by_cases g3 : (T a).1 = 3
      · rw [if_pos g3] at h
        have c1 := lt_z h0 ha g3 (by decide)
        by_cases g44 : (T (a + 1)).1 = 44
        · rw [if_pos g44] at h
          have c2 := lt_z h0 (show a + 1 ≤ N by omega) g44 (by decide)
          exact pPars_le hN h0 f _ y (by show a + 2 ≤ N; omega) h
        · rw [if_neg g44] at h
          by_cases g41 : (T (a + 1)).1 = 41
          · rw [if_pos g41] at h
            have c2 := lt_z h0 (show a + 1 ≤ N by omega) g41 (by decide)
            cases h
            show a + 2 ≤ N
            omega
          · rw [if_neg g41] at h; cases h
      · rw [if_neg g3] at h; cases h
theorem pPars_6 {kq : Nat} : ∀ (f : Nat) (z y : PP), z.2.1.length ≤ 6 → pPars T kq f z = .inr y → y.2.1.length ≤ 6
  | 0, z, y, hz, h => by cases h
  | f + 1, z, y, hz, h => by
    unfold pPars at h
    by_cases g : tyS (T z.1).1 = true ∧ z.2.1.length = 6
    · rw [if_pos g] at h; cases h
    rw [if_neg g] at h
    cases hp : pType T z.1 with
    | inl e => rw [hp] at h; cases h
    | inr a =>
      rw [hp] at h
      dsimp only at h
      have l6 : ¬ z.2.1.length = 6 := fun e => g ⟨pType_S hp, e⟩
      have nl : (z.2.1 ++ [(z.1, a, tyK T z.1 (kq + z.2.2.length))]).length ≤ 6 := by rw [List.length_append, List.length_singleton]; omega
      by_cases g3 : (T a).1 = 3
      · rw [if_pos g3] at h
        by_cases g44 : (T (a + 1)).1 = 44
        · rw [if_pos g44] at h
          exact pPars_6 f _ y nl h
        · rw [if_neg g44] at h
          by_cases g41 : (T (a + 1)).1 = 41
          · rw [if_pos g41] at h
            cases h
            exact nl
          · rw [if_neg g41] at h; cases h
      · rw [if_neg g3] at h; cases h
theorem pMem_le {k c kq i0 : Nat} {r : PR} (hN : N ≤ 3000) (h0 : (T N).1 = 0) (hc : c ≤ N) (h : pMem T (N + 1) k c kq i0 = .inr r) : r.1 ≤ N := by
  unfold pMem at h
  by_cases e24 : k = 24
  · rw [if_pos e24] at h; cases h
  rw [if_neg e24] at h
  cases hp : pType T c with
  | inl e => rw [hp] at h; cases h
  | inr c1 =>
    rw [hp] at h
    dsimp only at h
    have h1 := pType_le hN h0 hc hp
    by_cases g3 : (T c1).1 = 3
    · rw [if_pos g3] at h
      have c2 := lt_z h0 h1 g3 (by decide)
      by_cases g59 : (T (c1 + 1)).1 = 59
      · rw [if_pos g59] at h
        have c3 := lt_z h0 (show c1 + 1 ≤ N by omega) g59 (by decide)
        cases h
        show c1 + 2 ≤ N
        omega
      · rw [if_neg g59] at h
        cases hq : pParams T (kq + (tyL T c).length) (c1 + 1) with
        | inl e => rw [hq] at h; cases h
        | inr y =>
          rw [hq] at h
          dsimp only at h
          have Y : y.1 ≤ N ∧ y.2.1.length ≤ 6 := by
            unfold pParams at hq
            by_cases g40 : (T (c1 + 1)).1 = 40
            · rw [if_pos g40] at hq
              have c3 := lt_z h0 (show c1 + 1 ≤ N by omega) g40 (by decide)
              by_cases g41 : (T (c1 + 1 + 1)).1 = 41
              · rw [if_pos g41] at hq
                have c4 := lt_z h0 (show c1 + 1 + 1 ≤ N by omega) g41 (by decide)
                cases hq
                exact ⟨by show c1 + 1 + 2 ≤ N; omega, by show 0 ≤ 6; omega⟩
              · rw [if_neg g41] at hq
                exact ⟨pPars_le hN h0 7 _ y (by show c1 + 1 + 1 ≤ N; omega) hq, pPars_6 7 _ y (by show 0 ≤ 6; omega) hq⟩
            · rw [if_neg g40] at hq; cases hq
          cases hz : prS T (N + 1) 30 0 1 y.1 y.2.1.length (kq + (tyL T c).length + y.2.2.length) i0 with
          | inl e => rw [hz] at h; cases h
          | inr z =>
            rw [hz] at h
            cases h
            exact prS_le hN h0 (Nat.le_refl _) Y.1 (by omega) hz
    · rw [if_neg g3] at h; cases h
/-- the MEMBERS of a CLASS -/
theorem pMems_ok (hN : N ≤ 3000) (h0 : (T N).1 = 0) {kq i0 : Nat} (hk0 : k0 ≤ 1000) (hkq : k0 ≤ kq) : ∀ (f : Nat) (z y : PM), pMems T (N + 1) kq i0 f z = .inr y → z.1 ≤ N → 4 * (kq + z.2.2.1.length) ≤ 4 * k0 + z.1 → i0 + z.2.2.2.1.length ≤ 2 * z.1 → z.2.1.length ≤ 24 → ∃ (rs : List RcM) (ka : List Nat) (oa : List Row) (ga : List (Nat × Nat)), y.2.1 = z.2.1 ++ rs.map (fun r => r.1) ∧ y.2.2.1 = z.2.2.1 ++ ka ∧ y.2.2.2.1 = z.2.2.2.1 ++ oa ∧ y.2.2.2.2 = z.2.2.2.2 ++ ga ∧ z.1 ≤ y.1 ∧ y.1 ≤ N ∧ agR z.1 y.1 ga ∧ 4 * (kq + y.2.2.1.length) ≤ 4 * k0 + y.1 ∧ i0 + y.2.2.2.1.length ≤ 2 * y.1 ∧ y.2.1.length ≤ 24 ∧ ∀ kt ot ag, KT kt (kq + z.2.2.1.length) ka → OT ot (i0 + z.2.2.2.1.length) oa → AGf ag ga → CHm T (N + 1) kt ot ag k0 z.1 rs y.1
  | 0, z, y, h, h1, h2, h3, h4 => by
    cases h
    exact ⟨[], [], [], [], (List.append_nil _).symm, (List.append_nil _).symm, (List.append_nil _).symm, (List.append_nil _).symm, Nat.le_refl _, h1, agR.nil, h2, h3, h4, fun _ _ _ _ _ _ => Nat.le_refl _⟩
  | f + 1, z, y, h, h1, h2, h3, h4 => by
    unfold pMems at h
    by_cases g : tyS (T z.1).1 = true
    · rw [if_pos g] at h
      cases hm : pMem T (N + 1) z.2.1.length z.1 (kq + z.2.2.1.length) (i0 + z.2.2.2.1.length) with
      | inl e => rw [hm] at h; cases h
      | inr r =>
        rw [hm] at h
        dsimp only at h
        have rl := pMem_le hN h0 h1 hm
        obtain ⟨a1, a2, a3, a4, a5, a6, ps, zb, a7⟩ := pMem_ok (k0 := k0) hm ⟨by omega, h2⟩ h3 ⟨by omega, hk0⟩ (by omega)
        obtain ⟨rs, ka, oa, ga, b1, b2, b3, b4, b5, b6, b7, b8, b9, b10, b11⟩ := pMems_ok hN h0 hk0 hkq f (r.1, z.2.1 ++ [r.2.1], z.2.2.1 ++ r.2.2.1, z.2.2.2.1 ++ r.2.2.2.1, z.2.2.2.2 ++ r.2.2.2.2) y h rl (by show 4 * (kq + (z.2.2.1 ++ r.2.2.1).length) ≤ 4 * k0 + r.1; rw [List.length_append]; omega) (by show i0 + (z.2.2.2.1 ++ r.2.2.2.1).length ≤ 2 * r.1; rw [List.length_append]; omega) (by show (z.2.1 ++ [r.2.1]).length ≤ 24; rw [List.length_append, List.length_singleton]; omega)
        dsimp only at b1 b2 b3 b4 b5 b7 b11
        refine ⟨(r.2.1, r.1, kq + z.2.2.1.length, ps, zb) :: rs, r.2.2.1 ++ ka, r.2.2.2.1 ++ oa, r.2.2.2.2 ++ ga, by rw [b1, List.append_assoc]; rfl, by rw [b2, List.append_assoc], by rw [b3, List.append_assoc], by rw [b4, List.append_assoc], by omega, b6, a4.app b7 (Nat.le_refl _) b5 (by omega), b8, b9, b10, fun kt ot ag k1 k2 k3 => ?_⟩
        have k1' := KT.app k1
        have k2' := OT.app k2
        have k3' := AGf.app k3
        refine ⟨by show z.1 ≤ r.2.1.1; omega, a7 kt ot ag k1'.1 k2'.1 k3'.1, ?_⟩
        refine b11 kt ot ag ?_ ?_ k3'.2
        · rw [List.length_append, ← Nat.add_assoc]; exact k1'.2
        · rw [List.length_append, ← Nat.add_assoc]; exact k2'.2
    · rw [if_neg g] at h
      cases h
      exact ⟨[], [], [], [], (List.append_nil _).symm, (List.append_nil _).symm, (List.append_nil _).symm, (List.append_nil _).symm, Nat.le_refl _, h1, agR.nil, h2, h3, h4, fun _ _ _ _ _ _ => Nat.le_refl _⟩
end MJA58
