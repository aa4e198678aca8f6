/-! ===== the reference's judge: fail, judgeNames ===== -/
def o61 : mjSt3 → mjSt3 → Prop := offG (fun h j => h = 97 ∧ (j = 61 ∨ j = 62)) (fun _ _ => False)
/-- nothing bad yet, or something bad -/
def gR0 (s : mjSt3) : Prop := s.1 97 61 = 0
def bR0 (s : mjSt3) : Prop := ¬ s.1 97 61 ≤ 0
def GR (s : mjSt3) : Prop := gR0 s ∨ bR0 s
section MJA67
variable {T : TT} {d N b k t c n : Nat} {ks : List Nat} {L : List CD} {s s' : mjSt3} {h : Option Nat} {beh : Bool}
theorem bR0.ng (x : bR0 s) : ¬ s.1 97 61 = 0 := fun e => x (by rw [e]; exact Int32.le_refl _)
theorem GR.ng (x : GR s) (g : ¬ s.1 97 61 = 0) : bR0 s := x.elim (fun e => absurd e g) id
theorem x_268 (g : GR s) {a : Int32} (ha : ¬ a ≤ 0) (p : Int32) : ∃ s', mjF (d + 1) 268 [.ref 97, .int a, .int p] (mjW0 s) = some (none, mjW0 s') ∧ o61 s s' ∧ bR0 s' := by
  rcases g with g | g
  · have g' : s.1 97 61 = 0 := g
    refine ⟨bS s a p, ?_, ?_, ?_⟩
    · exact v_fail g' a p
    · obtain ⟨a1, a2, a3, a4, a5⟩ := bS_at (s := s) a p
      refine ⟨fun x j hx => ?_, fun x j _ => by rw [a5], by rw [a5]⟩
      by_cases e : x = 97
      · subst e; exact a3 j (by omega) (by omega)
      · rw [a4 x e]
    · unfold bR0
      rw [(bS_at (s := s) a p).1]
      exact ha
  · refine ⟨s, ?_, offG.rf, g⟩
    have g' : ¬ s.1 97 61 ≤ 0 := g
    rw [e_268]
    unfold f_268 b_268_0
    rw [xg_97_61, if_neg g']
/-- rows of what was read that a judge leaves alone -/
theorem RJ.off (J : RJ T N b ks L s) (h63 : s'.1 97 63 = s.1 97 63) (hi : ∀ h, (100 ≤ h ∧ h ≤ 108) ∨ h = 112 ∨ h = 115 ∨ h = 116 ∨ (120 ≤ h ∧ h ≤ 129) ∨ h = 131 ∨ h = 133 ∨ h = 134 ∨ h = 137 ∨ h = 138 ∨ h = 141 → s'.1 h = s.1 h) (hl : s'.2.1 = s.2.1) : RJ T N b ks L s' := by
  obtain ⟨⟨a1, a2⟩, ⟨b1, b2, b3⟩, c1, d1⟩ := J
  refine ⟨⟨a1, by rw [h63]; exact a2⟩, ⟨by rw [hi 100 (by omega)]; exact b1, by rw [hi 120 (by omega)]; exact b2, fun c E hc => ?_⟩, fun i t ht => ?_, d1⟩
  · obtain ⟨⟨x1, x2, x3, x4, x5, x6, x7, x8⟩, y, z⟩ := b3 c E hc
    refine ⟨⟨by rw [hl]; exact x1, by rw [hi 102 (by omega)]; exact x2, ?_, fun e => ?_, fun e => ?_, ?_, by rw [hi 107 (by omega)]; exact x7, x8⟩, by rw [hi 108 (by omega)]; exact y, fun j md hj => ?_⟩
    · unfold RN; rw [hi 104 (by omega), hi 112 (by omega), hl]; exact x3
    · rw [hi 103 (by omega), hi 105 (by omega)]; exact x4 e
    · rw [hi 103 (by omega), hi 105 (by omega)]; exact x5 e
    · unfold RI; rw [hi 106 (by omega), hi 115 (by omega), hi 116 (by omega), hl]; exact x6
    · have w := z j md hj
      unfold RM RM0 RP at w ⊢
      rw [hi 124 (by omega), hi 125 (by omega), hi 126 (by omega), hi 127 (by omega), hi 128 (by omega), hi 129 (by omega), hi 131 (by omega), hi 133 (by omega), hi 134 (by omega), hl]
      exact w
  · have w := c1 i t ht
    unfold Kd at w ⊢
    rw [hi 137 (by omega), hi 138 (by omega), hi 141 (by omega), hl]
    exact w
theorem oNm.J (o : oNm k s s') (J : RJ T N b ks L s) : RJ T N b ks L s' := J.off (o.1 97 63 (by omega)) (fun x hx => funext fun j => o.1 x j (by omega)) (funext fun x => funext fun j => o.2.1 x j (fun e => e))
theorem o61.Nm (o : o61 s s') : oNm k s s' := offG.mono o (fun _ _ x => Or.inl x) (fun _ _ x => x)
theorem o61.J (o : o61 s s') (J : RJ T N b ks L s) : RJ T N b ks L s' := (o61.Nm (k := 0) o).J J
theorem L302_S (R : mjR) (n a : Nat) (b e f g : Int32) (hp : mjH) : L_302_71 R (n + 1) a b e f g hp = b_302_71 R (L_302_71 R n) a b e f g hp := rfl
/-- judgeNames' loop over the OWNERS -/
theorem lq_302 (hh : ∀ c, h = some c → c < L.length) (hk : k < 1600) (ht : KDk T N t) : ∀ (r i m : Nat) (s : mjSt3), i + r = cntO T 6 (t + 2) → r < m → RJ T N b ks L s → Kd T s k t → GR s → (gR0 s → ∀ j, j < i → ¬ owT T L h beh (t + 2 + 2 * j) = none ∧ s.1 142 (5 * k + j) = ownR (owT T L h beh (t + 2 + 2 * j))) → ∃ s', L_302_71 (mjF (d + 2)) m 97 (nI k) (cR b h) (b2 beh) (nI i) (mjW0 s) = some (none, mjW0 s') ∧ oNm k s s' ∧ GR s' ∧ (gR0 s' ↔ gR0 s ∧ ∀ j, i ≤ j → j < cntO T 6 (t + 2) → ¬ owT T L h beh (t + 2 + 2 * j) = none) ∧ (gR0 s' → ∀ j, j < cntO T 6 (t + 2) → s'.1 142 (5 * k + j) = ownR (owT T L h beh (t + 2 + 2 * j))) ∧ s'.1 139 = s.1 139
  | r, i, 0, s, e, hr, J, K, g, w => by omega
  | 0, i, m + 1, s, e, hr, J, K, g, w => by
    have h5 := K.1
    refine ⟨s, ?_, offG.rf, g, ⟨fun x => ⟨x, fun j h1 h2 => by omega⟩, fun x => x.1⟩, fun x j hj => (w x j (by omega)).2, rfl⟩
    rw [L302_S]
    unfold b_302_71
    rw [xg_97_49, wa_138 hk, K.2.2.2.1, if_pos (nI_le (by omega) (by omega))]
  | r + 1, i, m + 1, s, e, hr, J, K, g, w => by
    have h5 := K.1
    have hb := J.b1
    rw [L302_S]
    unfold b_302_71 b_302_144
    rw [xg_97_49, wa_138 hk, K.2.2.2.1, if_neg (nI_ge (by omega) (by omega)), xg_97_61]
    by_cases g0 : s.1 97 61 = 0
    · have tN := ht.2.2.2.1
      rw [if_pos g0, xg_97_51, i5m, wa_140 (by omega), (K.2.2.2.2 i (by omega)).1, xV_97, x_304 J hh (show t + 2 + 2 * i ≤ N by omega) (ht.2.2.2.2.1 i (by omega)), bI_s, xg_97_53, ws_142 (by omega)]
      obtain ⟨z1, h1⟩ : ∃ z, z = uI s 142 (upd (s.1 142) (5 * k + i) (ownR (owT T L h beh (t + 2 + 2 * i)))) := ⟨_, rfl⟩
      rw [← h1]
      have o1 : oNm k s z1 := by rw [h1]; exact offG.w (Or.inr (Or.inr ⟨rfl, by omega, by omega⟩))
      have J1 := oNm.J o1 J
      have K1 : Kd T z1 k t := by
        unfold Kd at K ⊢
        rw [h1, uI_ne _ _ _ _ (by decide), uI_ne _ _ _ _ (by decide), uI_ne _ _ _ _ (by decide)]
        exact K
      have g1 : gR0 z1 := by
        unfold gR0
        rw [h1, uI_ne _ _ _ _ (by decide)]
        exact g0
      have e139 : z1.1 139 = s.1 139 := by rw [h1, uI_ne _ _ _ _ (by decide)]
      have le : ∀ x, owT T L h beh (t + 2 + 2 * i) = some x → x ≤ 6 := fun x hx => owT_le J.2.2.2.2.2.1 hh hx
      by_cases gn : owT T L h beh (t + 2 + 2 * i) = none
      · rw [if_pos ((ownR_9 le).mpr gn), xg_97_52, wa_141 (by omega), xV_97]
        obtain ⟨z2, a1, a2, a3⟩ := x_268 (d := d + 1) (s := z1) (Or.inl g1) (a := 5) (by decide) (z1.1 141 (5 * k + i))
        rw [a1, bN_s, nI_1]
        have K2 : Kd T z2 k t := by
          have r : ∀ x, ¬ x = 97 → z2.1 x = z1.1 x := fun x hx => funext fun j => a2.1 x j (by omega)
          have l : z2.2.1 = z1.2.1 := funext fun x => funext fun j => a2.2.1 x j (fun e => e)
          unfold Kd at K1 ⊢
          rw [r 137 (by decide), r 138 (by decide), r 141 (by decide), l]
          exact K1
        obtain ⟨s', b1, b2', b3, b4, b5, b6⟩ := lq_302 hh hk ht r (i + 1) m z2 (by omega) (by omega) (o61.J a2 J1) K2 (Or.inr a3) (fun x => absurd x a3.ng)
        refine ⟨s', b1, o1.tr ((o61.Nm a2).tr b2'), b3, ⟨fun x => absurd (b4.mp x).1 a3.ng, fun x => absurd gn (x.2 i (Nat.le_refl _) (by omega))⟩, b5, ?_⟩
        rw [b6, funext fun j => a2.1 139 j (by omega), e139]
      · rw [if_neg (fun x => gn ((ownR_9 le).mp x)), nI_1]
        obtain ⟨s', b1, b2', b3, b4, b5, b6⟩ := lq_302 hh hk ht r (i + 1) m z1 (by omega) (by omega) J1 K1 (Or.inl g1) (fun x j hj => by
          by_cases e' : j = i
          · subst e'
            refine ⟨gn, ?_⟩
            rw [h1, uI_same, upd_g, if_pos rfl]
          · refine ⟨(w g0 j (by omega)).1, ?_⟩
            rw [h1, uI_same, upd_g, if_neg (by omega)]
            exact (w g0 j (by omega)).2)
        refine ⟨s', b1, o1.tr b2', b3, ⟨fun x => ⟨g0, fun j h1 h2 => ?_⟩, fun x => b4.mpr ⟨g1, fun j h1 h2 => x.2 j (by omega) h2⟩⟩, b5, by rw [b6, e139]⟩
        by_cases e' : j = i
        · rw [e']; exact gn
        · exact (b4.mp x).2 j (by omega) h2
    · rw [if_neg g0]
      exact ⟨s, rfl, offG.rf, g, ⟨fun x => absurd x g0, fun x => absurd x.1 g0⟩, fun x => absurd x g0, rfl⟩
/-- judgeNames of a KIND at k, in CLASS h, behind is or not -/
theorem x_302 (J : RJ T N b ks L s) (hh : ∀ c, h = some c → c < L.length) (hk : k < 1600) (ht : KDk T N t) (K : Kd T s k t) (g : GR s) : ∃ s', mjF (d + 3) 302 [.ref 97, .int (nI k), .int (cR b h), .int (b2 beh)] (mjW0 s) = some (none, mjW0 s') ∧ oNm k s s' ∧ GR s' ∧ (gR0 s' ↔ gR0 s ∧ ¬ kdT T L h beh t = none) ∧ (gR0 s' → ∀ kk, kdT T L h beh t = some kk → KRr b s' k (cntO T 6 (t + 2)) kk) := by
  have hb := J.b1
  have h16 := J.len
  have h5 := K.1
  obtain ⟨z1, h1⟩ : ∃ z, z = uI s 139 (upd (s.1 139) k (cR b (clsK T L (kyT T t)))) := ⟨_, rfl⟩
  have o1 : oNm k s z1 := by rw [h1]; exact offG.w (Or.inr (Or.inl ⟨rfl, rfl⟩))
  have J1 := oNm.J o1 J
  have K1 : Kd T z1 k t := by
    unfold Kd at K ⊢
    rw [h1, uI_ne _ _ _ _ (by decide), uI_ne _ _ _ _ (by decide), uI_ne _ _ _ _ (by decide)]
    exact K
  have e61 : z1.1 97 = s.1 97 := by rw [h1, uI_ne _ _ _ _ (by decide)]
  have G1 : GR z1 := by unfold GR gR0 bR0; rw [e61]; exact g
  have c139 : z1.1 139 k = cR b (clsK T L (kyT T t)) := by rw [h1, uI_same, upd_g, if_pos rfl]
  obtain ⟨U, hU⟩ : ∃ U, U = mjF (d + 3) 302 [.ref 97, .int (nI k), .int (cR b h), .int (b2 beh)] (mjW0 s) := ⟨_, rfl⟩
  have pre : U = f_302 (mjF (d + 2)) 97 (nI k) (cR b h) (b2 beh) (mjW0 s) := hU
  rw [← hU]
  unfold f_302 b_302_0 b_302_68 at pre
  have kn : s.2.1 136 k = kyT T t := K.2.1
  rw [xg_97_47, wa_136 hk, kn, xV_97, x_303 J, bI_s, xg_97_50, ws_139 hk, ← h1] at pre
  -- a bad road
  have bad : ∀ (a p : Int32), ¬ a ≤ 0 → kdT T L h beh t = none → U = bN (mjF (d + 2) 268 [.ref 97, .int a, .int p] (mjW0 z1)) (fun hp => L_302_71 (mjF (d + 2)) mjN 97 (nI k) (cR b h) (b2 beh) 0 hp) → ∃ s', U = some (none, mjW0 s') ∧ oNm k s s' ∧ GR s' ∧ (gR0 s' ↔ gR0 s ∧ ¬ kdT T L h beh t = none) ∧ (gR0 s' → ∀ kk, kdT T L h beh t = some kk → KRr b s' k (cntO T 6 (t + 2)) kk) := by
    intro a p ha hn hu
    obtain ⟨z2, a1, a2, a3⟩ := x_268 (d := d + 1) G1 ha p
    have K2 : Kd T z2 k t := by
      have r : ∀ x, ¬ x = 97 → z2.1 x = z1.1 x := fun x hx => funext fun j => a2.1 x j (by omega)
      have l : z2.2.1 = z1.2.1 := funext fun x => funext fun j => a2.2.1 x j (fun e => e)
      unfold Kd at K1 ⊢
      rw [r 137 (by decide), r 138 (by decide), r 141 (by decide), l]
      exact K1
    obtain ⟨s', b1, b2', b3, b4, b5, b6⟩ := lq_302 (d := d) (beh := beh) hh hk ht (cntO T 6 (t + 2)) 0 mjN z2 (by omega) (by have := mjN_v; omega) (o61.J a2 J1) K2 (Or.inr a3) (fun x => absurd x a3.ng)
    rw [a1, bN_s] at hu
    exact ⟨s', hu.trans b1, o1.tr ((o61.Nm a2).tr b2'), b3, ⟨fun x => absurd (b4.mp x).1 a3.ng, fun x => absurd hn x.2⟩, fun x => absurd (b4.mp x).1 a3.ng⟩
  cases hc : clsK T L (kyT T t) with
  | none =>
    have kn0 : kdT T L h beh t = none := by unfold kdT; rw [hc]
    rw [hc, if_pos (show cR b none = -1 from rfl), xg_97_48, wa_137 hk, xV_97] at pre
    exact bad 5 _ (by decide) kn0 pre
  | some e =>
    have he : e < L.length := fnd_lt hc
    have nm5 := (J.2.2.2.2.2.1.2 e he).2.2.2.1
    rw [hc, if_neg (show ¬ cR b (some e) = -1 from nI_m1 (by omega)), xg_97_49, wa_138 hk, K1.2.2.2.1, xg_97_15, show cR b (some e) = nI (16 * b + e) from rfl, wa_104 (by omega), (J1.hd he).2.2.1.1] at pre
    by_cases gc : cntO T 6 (t + 2) = (hC L e).2.1
    · rw [if_pos (show nI (cntO T 6 (t + 2)) = nI (hC L e).2.1 by rw [gc])] at pre
      obtain ⟨s', b1, b2', b3, b4, b5, b6⟩ := lq_302 (d := d) (beh := beh) hh hk ht (cntO T 6 (t + 2)) 0 mjN z1 (by omega) (by have := mjN_v; omega) J1 K1 G1 (fun x j hj => absurd hj (by omega))
      have kd : kdT T L h beh t = (match fnd (fun i => decide (owT T L h beh (t + 2 + 2 * i) = none)) (hC L e).2.1 with
        | some _ => none
        | none => some (mkK e (hC L e).2.1 (fun i => (owT T L h beh (t + 2 + 2 * i)).getD 0))) := by
        unfold kdT
        rw [hc]
        dsimp only
        rw [if_pos gc]
        rfl
      have g61 : gR0 z1 ↔ gR0 s := by unfold gR0; rw [e61]
      refine ⟨s', pre.trans b1, o1.tr b2', b3, ?_, fun x kk hkk => ?_⟩
      · rw [b4, g61, kd]
        cases hf : fnd (fun i => decide (owT T L h beh (t + 2 + 2 * i) = none)) (hC L e).2.1 with
        | none =>
          have := fnd_none.mp hf
          exact ⟨fun x => ⟨x.1, fun y => by cases y⟩, fun x => ⟨x.1, fun j _ hj => of_decide_eq_false (this j (by omega))⟩⟩
        | some i =>
          obtain ⟨f1, f2, f3⟩ := fnd_some.mp hf
          exact ⟨fun x => absurd (of_decide_eq_true f2) (x.2 i (Nat.zero_le _) (by omega)), fun x => absurd rfl x.2⟩
      · rw [kd] at hkk
        cases hf : fnd (fun i => decide (owT T L h beh (t + 2 + 2 * i) = none)) (hC L e).2.1 with
        | some i => rw [hf] at hkk; cases hkk
        | none =>
          rw [hf] at hkk
          cases hkk
          have fl : ∀ i, i < (hC L e).2.1 → (owT T L h beh (t + 2 + 2 * i)).getD 0 < 8 := by
            intro i hi
            cases ho : owT T L h beh (t + 2 + 2 * i) with
            | none => show 0 < 8; omega
            | some x =>
              have := owT_le J.2.2.2.2.2.1 hh ho
              show x < 8
              omega
          refine ⟨?_, fun i hi => ?_⟩
          · rw [b6, c139, hc, mkK_c nm5 fl]
            rfl
          · rw [b5 x i hi, mkK_o nm5 fl (by omega)]
            have := of_decide_eq_false (fnd_none.mp hf i (by omega))
            cases ho : owT T L h beh (t + 2 + 2 * i) with
            | none => exact absurd ho this
            | some y => rfl
    · have kn0 : kdT T L h beh t = none := by
        unfold kdT
        rw [hc]
        dsimp only
        rw [if_neg gc]
      rw [if_neg (show ¬ nI (cntO T 6 (t + 2)) = nI (hC L e).2.1 from fun x => gc ((nI_eq (by omega) (by omega)).mp x)), xg_97_48, wa_137 hk, xV_97] at pre
      exact bad 6 _ (by decide) kn0 pre
end MJA67
