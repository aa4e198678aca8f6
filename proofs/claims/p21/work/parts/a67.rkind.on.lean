section
/-! ===== the reference's judge: fail, judgeNames ===== -/
def o61 : mjSt3 → mjSt3 → Prop := offG (fun h j => h = 97 ∧ (j = 61 ∨ j = 62)) (fun _ _ => False)
/-- nothing bad yet, or something bad -/
def gR0 (s : mjSt3) : Prop := s.1 97 61 = 0
def bR0 (s : mjSt3) : Prop := ¬ s.1 97 61 ≤ 0
def GR (s : mjSt3) : Prop := gR0 s ∨ bR0 s
section MJA67
variable {T : TT} {d N b k t c n : Nat} {ks : List Nat} {L : List CD} {s s' : mjSt3} {h : Option Nat} {beh : Bool}
theorem bR0.ng (x : bR0 s) : ¬ s.1 97 61 = 0 := fun e => x (by rw [e]; exact Int32.le_refl _)
theorem GR.ng (x : GR s) (g : ¬ s.1 97 61 = 0) : bR0 s := x.elim (fun e => absurd e g) id
theorem x_268 (g : GR s) {a : Int32} (ha : ¬ a ≤ 0) (p : Int32) : ∃ s', mjF (d + 1) 268 [.ref 97, .int a, .int p] (mjW0 s) = some (none, mjW0 s') ∧ o61 s s' ∧ bR0 s' := by
  rcases g with g | g
  · have g' : s.1 97 61 = 0 := g
    refine ⟨bS s a p, ?_, ?_, ?_⟩
    · exact v_fail g' a p
    · obtain ⟨a1, a2, a3, a4, a5⟩ := bS_at (s := s) a p
      refine ⟨fun x j hx => ?_, fun x j _ => by rw [a5], by rw [a5]⟩
      by_cases e : x = 97
      · subst e; exact a3 j (by omega) (by omega)
      · rw [a4 x e]
    · unfold bR0
      rw [(bS_at (s := s) a p).1]
      exact ha
  · refine ⟨s, ?_, offG.rf, g⟩
    have g' : ¬ s.1 97 61 ≤ 0 := g
    rw [e_268]
    unfold f_268 b_268_0
    rw [xg_97_61, if_neg g']
/-- rows of what was read that a judge leaves alone -/
theorem RJ.off (J : RJ T N b ks L s) (h63 : s'.1 97 63 = s.1 97 63) (hi : ∀ h, (100 ≤ h ∧ h ≤ 108) ∨ h = 112 ∨ h = 115 ∨ h = 116 ∨ (120 ≤ h ∧ h ≤ 129) ∨ h = 131 ∨ h = 133 ∨ h = 134 ∨ h = 137 ∨ h = 138 ∨ h = 141 → s'.1 h = s.1 h) (hl : s'.2.1 = s.2.1) : RJ T N b ks L s' := by
  obtain ⟨⟨a1, a2⟩, ⟨b1, b2, b3⟩, c1, d1⟩ := J
  refine ⟨⟨a1, by rw [h63]; exact a2⟩, ⟨by rw [hi 100 (by omega)]; exact b1, by rw [hi 120 (by omega)]; exact b2, fun c E hc => ?_⟩, fun i t ht => ?_, d1⟩
  · obtain ⟨⟨x1, x2, x3, x4, x5, x6, x7, x8⟩, y, z⟩ := b3 c E hc
    refine ⟨⟨by rw [hl]; exact x1, by rw [hi 102 (by omega)]; exact x2, ?_, fun e => ?_, fun e => ?_, ?_, by rw [hi 107 (by omega)]; exact x7, x8⟩, by rw [hi 108 (by omega)]; exact y, fun j md hj => ?_⟩
    · unfold RN; rw [hi 104 (by omega), hi 112 (by omega), hl]; exact x3
    · rw [hi 103 (by omega), hi 105 (by omega)]; exact x4 e
    · rw [hi 103 (by omega), hi 105 (by omega)]; exact x5 e
    · unfold RI; rw [hi 106 (by omega), hi 115 (by omega), hi 116 (by omega), hl]; exact x6
    · have w := z j md hj
      unfold RM RM0 RP at w ⊢
      rw [hi 124 (by omega), hi 125 (by omega), hi 126 (by omega), hi 127 (by omega), hi 128 (by omega), hi 129 (by omega), hi 131 (by omega), hi 133 (by omega), hi 134 (by omega), hl]
      exact w
  · have w := c1 i t ht
    unfold Kd at w ⊢
    rw [hi 137 (by omega), hi 138 (by omega), hi 141 (by omega), hl]
    exact w
theorem oNm.J (o : oNm k s s') (J : RJ T N b ks L s) : RJ T N b ks L s' := J.off (o.1 97 63 (by omega)) (fun x hx => funext fun j => o.1 x j (by omega)) (funext fun x => funext fun j => o.2.1 x j (fun e => e))
theorem o61.Nm (o : o61 s s') : oNm k s s' := offG.mono o (fun _ _ x => Or.inl x) (fun _ _ x => x)
theorem o61.J (o : o61 s s') (J : RJ T N b ks L s) : RJ T N b ks L s' := (o61.Nm (k := 0) o).J J
theorem L302_S (R : mjR) (n a : Nat) (b e f g : Int32) (hp : mjH) : L_302_71 R (n + 1) a b e f g hp = b_302_71 R (L_302_71 R n) a b e f g hp := rfl
/-- judgeNames' loop over the OWNERS -/
theorem lq_302 (hh : ∀ c, h = some c → c < L.length) (hk : k < 1600) (ht : KDk T N t) : ∀ (r i m : Nat) (s : mjSt3), i + r = cntO T 6 (t + 2) → r < m → RJ T N b ks L s → Kd T s k t → GR s → (gR0 s → ∀ j, j < i → ¬ owT T L h beh (t + 2 + 2 * j) = none ∧ s.1 142 (5 * k + j) = ownR (owT T L h beh (t + 2 + 2 * j))) → ∃ s', L_302_71 (mjF (d + 2)) m 97 (nI k) (cR b h) (b2 beh) (nI i) (mjW0 s) = some (none, mjW0 s') ∧ oNm k s s' ∧ GR s' ∧ (gR0 s' ↔ gR0 s ∧ ∀ j, i ≤ j → j < cntO T 6 (t + 2) → ¬ owT T L h beh (t + 2 + 2 * j) = none) ∧ (gR0 s' → ∀ j, j < cntO T 6 (t + 2) → s'.1 142 (5 * k + j) = ownR (owT T L h beh (t + 2 + 2 * j))) ∧ s'.1 139 = s.1 139
  | r, i, 0, s, e, hr, J, K, g, w => by omega
  | 0, i, m + 1, s, e, hr, J, K, g, w => by
    have h5 := K.1
    refine ⟨s, ?_, offG.rf, g, ⟨fun x => ⟨x, fun j h1 h2 => by omega⟩, fun x => x.1⟩, fun x j hj => (w x j (by omega)).2, rfl⟩
    rw [L302_S]
    unfold b_302_71
    rw [xg_97_49, wa_138 hk, K.2.2.2.1, if_pos (nI_le (by omega) (by omega))]
  | r + 1, i, m + 1, s, e, hr, J, K, g, w => by
    have h5 := K.1
    have hb := J.b1
    rw [L302_S]
    unfold b_302_71 b_302_144
    rw [xg_97_49, wa_138 hk, K.2.2.2.1, if_neg (nI_ge (by omega) (by omega)), xg_97_61]
    by_cases g0 : s.1 97 61 = 0
    · have tN := ht.2.2.2.1
      rw [if_pos g0, xg_97_51, i5m, wa_140 (by omega), (K.2.2.2.2 i (by omega)).1, xV_97, x_304 J hh (show t + 2 + 2 * i ≤ N by omega) (ht.2.2.2.2.1 i (by omega)), bI_s, xg_97_53, ws_142 (by omega)]
      obtain ⟨z1, h1⟩ : ∃ z, z = uI s 142 (upd (s.1 142) (5 * k + i) (ownR (owT T L h beh (t + 2 + 2 * i)))) := ⟨_, rfl⟩
      rw [← h1]
      have o1 : oNm k s z1 := by rw [h1]; exact offG.w (Or.inr (Or.inr ⟨rfl, by omega, by omega⟩))
      have J1 := oNm.J o1 J
      have K1 : Kd T z1 k t := by
        unfold Kd at K ⊢
        rw [h1, uI_ne _ _ _ _ (by decide), uI_ne _ _ _ _ (by decide), uI_ne _ _ _ _ (by decide)]
        exact K
      have g1 : gR0 z1 := by
        unfold gR0
        rw [h1, uI_ne _ _ _ _ (by decide)]
        exact g0
      have e139 : z1.1 139 = s.1 139 := by rw [h1, uI_ne _ _ _ _ (by decide)]
      have le : ∀ x, owT T L h beh (t + 2 + 2 * i) = some x → x ≤ 6 := fun x hx => owT_le J.2.2.2.2.2.1 hh hx
      by_cases gn : owT T L h beh (t + 2 + 2 * i) = none
      · rw [if_pos ((ownR_9 le).mpr gn), xg_97_52, wa_141 (by omega), xV_97]
        obtain ⟨z2, a1, a2, a3⟩ := x_268 (d := d + 1) (s := z1) (Or.inl g1) (a := 5) (by decide) (z1.1 141 (5 * k + i))
        rw [a1, bN_s, nI_1]
        have K2 : Kd T z2 k t := by
          have r : ∀ x, ¬ x = 97 → z2.1 x = z1.1 x := fun x hx => funext fun j => a2.1 x j (by omega)
          have l : z2.2.1 = z1.2.1 := funext fun x => funext fun j => a2.2.1 x j (fun e => e)
          unfold Kd at K1 ⊢
          rw [r 137 (by decide), r 138 (by decide), r 141 (by decide), l]
          exact K1
        obtain ⟨s', b1, b2', b3, b4, b5, b6⟩ := lq_302 hh hk ht r (i + 1) m z2 (by omega) (by omega) (o61.J a2 J1) K2 (Or.inr a3) (fun x => absurd x a3.ng)
        refine ⟨s', b1, o1.tr ((o61.Nm a2).tr b2'), b3, ⟨fun x => absurd (b4.mp x).1 a3.ng, fun x => absurd gn (x.2 i (Nat.le_refl _) (by omega))⟩, b5, ?_⟩
        rw [b6, funext fun j => a2.1 139 j (by omega), e139]
      · rw [if_neg (fun x => gn ((ownR_9 le).mp x)), nI_1]
        obtain ⟨s', b1, b2', b3, b4, b5, b6⟩ := lq_302 hh hk ht r (i + 1) m z1 (by omega) (by omega) J1 K1 (Or.inl g1) (fun x j hj => by
          by_cases e' : j = i
          · subst e'
            refine ⟨gn, ?_⟩
            rw [h1, uI_same, upd_g, if_pos rfl]
          · refine ⟨(w g0 j (by omega)).1, ?_⟩
            rw [h1, uI_same, upd_g, if_neg (by omega)]
            exact (w g0 j (by omega)).2)
        refine ⟨s', b1, o1.tr b2', b3, ⟨fun x => ⟨g0, fun j h1 h2 => ?_⟩, fun x => b4.mpr ⟨g1, fun j h1 h2 => x.2 j (by omega) h2⟩⟩, b5, by rw [b6, e139]⟩
        by_cases e' : j = i
        · rw [e']; exact gn
        · exact (b4.mp x).2 j (by omega) h2
    · rw [if_neg g0]
      exact ⟨s, rfl, offG.rf, g, ⟨fun x => absurd x g0, fun x => absurd x.1 g0⟩, fun x => absurd x g0, rfl⟩
/-- judgeNames of a KIND at k, in CLASS h, behind is or not -/
theorem x_302 (J : RJ T N b ks L s) (hh : ∀ c, h = some c → c < L.length) (hk : k < 1600) (ht : KDk T N t) (K : Kd T s k t) (g : GR s) : ∃ s', mjF (d + 3) 302 [.ref 97, .int (nI k), .int (cR b h), .int (b2 beh)] (mjW0 s) = some (none, mjW0 s') ∧ oNm k s s' ∧ GR s' ∧ (gR0 s' ↔ gR0 s ∧ ¬ kdT T L h beh t = none) ∧ (gR0 s' → ∀ kk, kdT T L h beh t = some kk → KRr b s' k (cntO T 6 (t + 2)) kk) := by
  have hb := J.b1
  have h16 := J.len
  have h5 := K.1
  obtain ⟨z1, h1⟩ : ∃ z, z = uI s 139 (upd (s.1 139) k (cR b (clsK T L (kyT T t)))) := ⟨_, rfl⟩
  have o1 : oNm k s z1 := by rw [h1]; exact offG.w (Or.inr (Or.inl ⟨rfl, rfl⟩))
  have J1 := oNm.J o1 J
  have K1 : Kd T z1 k t := by
    unfold Kd at K ⊢
    rw [h1, uI_ne _ _ _ _ (by decide), uI_ne _ _ _ _ (by decide), uI_ne _ _ _ _ (by decide)]
    exact K
  have e61 : z1.1 97 = s.1 97 := by rw [h1, uI_ne _ _ _ _ (by decide)]
  have G1 : GR z1 := by unfold GR gR0 bR0; rw [e61]; exact g
  have c139 : z1.1 139 k = cR b (clsK T L (kyT T t)) := by rw [h1, uI_same, upd_g, if_pos rfl]
  obtain ⟨U, hU⟩ : ∃ U, U = mjF (d + 3) 302 [.ref 97, .int (nI k), .int (cR b h), .int (b2 beh)] (mjW0 s) := ⟨_, rfl⟩
  have pre : U = f_302 (mjF (d + 2)) 97 (nI k) (cR b h) (b2 beh) (mjW0 s) := hU
  rw [← hU]
  unfold f_302 b_302_0 b_302_68 at pre
  have kn : s.2.1 136 k = kyT T t := K.2.1
  rw [xg_97_47, wa_136 hk, kn, xV_97, x_303 J, bI_s, xg_97_50, ws_139 hk, ← h1] at pre
  -- a bad road
  have bad : ∀ (a p : Int32), ¬ a ≤ 0 → kdT T L h beh t = none → U = bN (mjF (d + 2) 268 [.ref 97, .int a, .int p] (mjW0 z1)) (fun hp => L_302_71 (mjF (d + 2)) mjN 97 (nI k) (cR b h) (b2 beh) 0 hp) → ∃ s', U = some (none, mjW0 s') ∧ oNm k s s' ∧ GR s' ∧ (gR0 s' ↔ gR0 s ∧ ¬ kdT T L h beh t = none) ∧ (gR0 s' → ∀ kk, kdT T L h beh t = some kk → KRr b s' k (cntO T 6 (t + 2)) kk) := by
    intro a p ha hn hu
    obtain ⟨z2, a1, a2, a3⟩ := x_268 (d := d + 1) G1 ha p
    have K2 : Kd T z2 k t := by
      have r : ∀ x, ¬ x = 97 → z2.1 x = z1.1 x := fun x hx => funext fun j => a2.1 x j (by omega)
      have l : z2.2.1 = z1.2.1 := funext fun x => funext fun j => a2.2.1 x j (fun e => e)
      unfold Kd at K1 ⊢
      rw [r 137 (by decide), r 138 (by decide), r 141 (by decide), l]
      exact K1
    obtain ⟨s', b1, b2', b3, b4, b5, b6⟩ := lq_302 (d := d) (beh := beh) hh hk ht (cntO T 6 (t + 2)) 0 mjN z2 (by omega) (by have := mjN_v; omega) (o61.J a2 J1) K2 (Or.inr a3) (fun x => absurd x a3.ng)
    rw [a1, bN_s] at hu
    exact ⟨s', hu.trans b1, o1.tr ((o61.Nm a2).tr b2'), b3, ⟨fun x => absurd (b4.mp x).1 a3.ng, fun x => absurd hn x.2⟩, fun x => absurd (b4.mp x).1 a3.ng⟩
  cases hc : clsK T L (kyT T t) with
  | none =>
    have kn0 : kdT T L h beh t = none := by unfold kdT; rw [hc]
    rw [hc, if_pos (show cR b none = -1 from rfl), xg_97_48, wa_137 hk, xV_97] at pre
    exact bad 5 _ (by decide) kn0 pre
  | some e =>
    have he : e < L.length := fnd_lt hc
    have nm5 := (J.2.2.2.2.2.1.2 e he).2.2.2.1
    rw [hc, if_neg (show ¬ cR b (some e) = -1 from nI_m1 (by omega)), xg_97_49, wa_138 hk, K1.2.2.2.1, xg_97_15, show cR b (some e) = nI (16 * b + e) from rfl, wa_104 (by omega), (J1.hd he).2.2.1.1] at pre
    by_cases gc : cntO T 6 (t + 2) = (hC L e).2.1
    · rw [if_pos (show nI (cntO T 6 (t + 2)) = nI (hC L e).2.1 by rw [gc])] at pre
      obtain ⟨s', b1, b2', b3, b4, b5, b6⟩ := lq_302 (d := d) (beh := beh) hh hk ht (cntO T 6 (t + 2)) 0 mjN z1 (by omega) (by have := mjN_v; omega) J1 K1 G1 (fun x j hj => absurd hj (by omega))
      have kd : kdT T L h beh t = (match fnd (fun i => decide (owT T L h beh (t + 2 + 2 * i) = none)) (hC L e).2.1 with
        | some _ => none
        | none => some (mkK e (hC L e).2.1 (fun i => (owT T L h beh (t + 2 + 2 * i)).getD 0))) := by
        unfold kdT
        rw [hc]
        dsimp only
        rw [if_pos gc]
        rfl
      have g61 : gR0 z1 ↔ gR0 s := by unfold gR0; rw [e61]
      refine ⟨s', pre.trans b1, o1.tr b2', b3, ?_, fun x kk hkk => ?_⟩
      · rw [b4, g61, kd]
        cases hf : fnd (fun i => decide (owT T L h beh (t + 2 + 2 * i) = none)) (hC L e).2.1 with
        | none =>
          have := fnd_none.mp hf
          exact ⟨fun x => ⟨x.1, fun y => by cases y⟩, fun x => ⟨x.1, fun j _ hj => of_decide_eq_false (this j (by omega))⟩⟩
        | some i =>
          obtain ⟨f1, f2, f3⟩ := fnd_some.mp hf
          exact ⟨fun x => absurd (of_decide_eq_true f2) (x.2 i (Nat.zero_le _) (by omega)), fun x => absurd rfl x.2⟩
      · rw [kd] at hkk
        cases hf : fnd (fun i => decide (owT T L h beh (t + 2 + 2 * i) = none)) (hC L e).2.1 with
        | some i => rw [hf] at hkk; cases hkk
        | none =>
          rw [hf] at hkk
          cases hkk
          have fl : ∀ i, i < (hC L e).2.1 → (owT T L h beh (t + 2 + 2 * i)).getD 0 < 8 := by
            intro i hi
            cases ho : owT T L h beh (t + 2 + 2 * i) with
            | none => show 0 < 8; omega
            | some x =>
              have := owT_le J.2.2.2.2.2.1 hh ho
              show x < 8
              omega
          refine ⟨?_, fun i hi => ?_⟩
          · rw [b6, c139, hc, mkK_c nm5 fl]
            rfl
          · rw [b5 x i hi, mkK_o nm5 fl (by omega)]
            have := of_decide_eq_false (fnd_none.mp hf i (by omega))
            cases ho : owT T L h beh (t + 2 + 2 * i) with
            | none => exact absurd ho this
            | some y => rfl
    · have kn0 : kdT T L h beh t = none := by
        unfold kdT
        rw [hc]
        dsimp only
        rw [if_neg gc]
      rw [if_neg (show ¬ nI (cntO T 6 (t + 2)) = nI (hC L e).2.1 from fun x => gc ((nI_eq (by omega) (by omega)).mp x)), xg_97_48, wa_137 hk, xV_97] at pre
      exact bad 6 _ (by decide) kn0 pre
end MJA67
end
section
/-! ===== the reference's judge: what is known of OWNERS ===== -/
theorem clo_t {w : Nat → Nat → Bool} : ∀ (m k a b : Nat), k < m → clo w m a k = true → clo w m k b = true → clo w m a b = true
  | 0, k, a, b, hk, _, _ => by omega
  | m + 1, k, a, b, hk, h1, h2 => by
    have ih := clo_t (w := w) m
    have h1' : (clo w m a k || (clo w m a m && clo w m m k)) = true := h1
    have h2' : (clo w m k b || (clo w m k m && clo w m m b)) = true := h2
    show (clo w m a b || (clo w m a m && clo w m m b)) = true
    rw [Bool.or_eq_true, Bool.and_eq_true] at h1' h2' ⊢
    by_cases e : k = m
    · subst e
      have a1 : clo w k a k = true := h1'.elim id (fun x => x.1)
      have a2 : clo w k k b = true := h2'.elim id (fun x => x.2)
      exact Or.inr ⟨a1, a2⟩
    · have hk' : k < m := by omega
      rcases h1' with x | ⟨x1, x2⟩ <;> rcases h2' with y | ⟨y1, y2⟩
      · exact Or.inl (ih k a b hk' x y)
      · exact Or.inr ⟨ih k a m hk' x y1, y2⟩
      · exact Or.inr ⟨x1, ih k m b hk' x2 y⟩
      · exact Or.inr ⟨x1, y2⟩
theorem clo_up {w : Nat → Nat → Bool} (a b : Nat) : ∀ m, w a b = true → clo w m a b = true
  | 0, h => h
  | m + 1, h => by
    show (clo w m a b || (clo w m a m && clo w m m b)) = true
    rw [clo_up a b m h]
    rfl
/-- closing does not ask for the order -/
theorem clo_pm {w w' : Nat → Nat → Bool} {p : Nat → Nat} (hp : ∀ x, x < 7 → p x < 7) (h : ∀ x y, x < 7 → y < 7 → w' x y = true → w (p x) (p y) = true) : ∀ (m x y : Nat), m ≤ 7 → x < 7 → y < 7 → clo w' m x y = true → clo w 7 (p x) (p y) = true
  | 0, x, y, _, hx, hy, e => clo_up _ _ 7 (h x y hx hy e)
  | m + 1, x, y, hm, hx, hy, e => by
    have e' : (clo w' m x y || (clo w' m x m && clo w' m m y)) = true := e
    rw [Bool.or_eq_true, Bool.and_eq_true] at e'
    rcases e' with e' | ⟨e1, e2⟩
    · exact clo_pm hp h m x y (by omega) hx hy e'
    · exact clo_t 7 (p m) _ _ (hp m (by omega)) (clo_pm hp h m x m (by omega) hx (by omega) e1) (clo_pm hp h m m y (by omega) (by omega) hy e2)
/-- an OWNER's row in the reference's table -/
def rwR (o : Nat) : Nat := if o = 6 then 5 else if o = 5 then 6 else o
theorem rwR_lt {x : Nat} (h : x < 7) : rwR x < 7 := by
  unfold rwR
  by_cases a : x = 6
  · rw [if_pos a]; omega
  · rw [if_neg a]
    by_cases b : x = 5
    · rw [if_pos b]; omega
    · rw [if_neg b]; exact h
theorem rwR_2 {x : Nat} (h : x < 7) : rwR (rwR x) = x := by
  unfold rwR
  by_cases a : x = 6
  · rw [if_pos a]; simp; omega
  · rw [if_neg a]
    by_cases b : x = 5
    · rw [if_pos b]; simp; omega
    · rw [if_neg b, if_neg a, if_neg b]
theorem clo_rw {w w' : Nat → Nat → Bool} (h : ∀ x y, x < 7 → y < 7 → w' (rwR x) (rwR y) = w x y) {x y : Nat} (hx : x < 7) (hy : y < 7) : clo w' 7 (rwR x) (rwR y) = clo w 7 x y := by
  rw [Bool.eq_iff_iff]
  constructor
  · intro e
    have := clo_pm (w := w) (w' := w') (p := rwR) (fun x hx => rwR_lt hx) (fun a b ha hb e => by
      have := h (rwR a) (rwR b) (rwR_lt ha) (rwR_lt hb)
      rw [rwR_2 ha, rwR_2 hb] at this
      rw [← this]; exact e) 7 (rwR x) (rwR y) (Nat.le_refl _) (rwR_lt hx) (rwR_lt hy) e
    rw [rwR_2 hx, rwR_2 hy] at this
    exact this
  · intro e
    exact clo_pm (w := w') (w' := w) (p := rwR) (fun x hx => rwR_lt hx) (fun a b ha hb e => by rw [h a b ha hb]; exact e) 7 x y (Nat.le_refl _) hx hy e
/-- the reference's rows of what is known -/
def WIT (b : Nat) (s : mjSt3) (n : Nat) (kn : Nat → Nat → Nat → Bool) : Prop := ∀ c, c < n → ∀ a, a < 7 → ∀ e, e < 7 → s.1 119 (49 * (16 * b + c) + 7 * rwR a + rwR e) = b2 (kn c a e)
/-- what the reference asks for two OWNERS -/
def kbG (kn : Nat → Nat → Nat → Bool) (h : Option Nat) (a e : Nat) : Bool := match h with
  | none => decide (a = e)
  | some c => kn c a e
section MJA68
variable {T : TT} {d N b k t c n : Nat} {ks : List Nat} {L : List CD} {s s' : mjSt3} {h : Option Nat} {hp : mjH}
theorem x_312 {o : Nat} (ho : o ≤ 6) : mjF (d + 1) 312 [.int (oR o)] hp = some (some (.int (nI (rwR o))), hp) := by
  rw [e_312]
  unfold f_312 b_312_0 oR rwR
  by_cases a : o = 6
  · subst a; rfl
  · by_cases e : o = 5
    · subst e; rfl
    · rw [if_neg e, if_neg a, if_neg a, if_neg e, if_neg (show ¬ nI o = -2 from fun x => nI_pos (show o < 2 ^ 31 by omega) (by rw [x]; decide)), if_neg (show ¬ nI o = -1 from nI_m1 (by omega))]
theorem oR_inj {a e : Nat} (ha : a ≤ 6) (he : e ≤ 6) : oR a = oR e ↔ a = e := by
  refine ⟨fun x => ?_, fun x => by rw [x]⟩
  have key : ∀ a, a < 7 → ∀ e, e < 7 → oR a = oR e → a = e := by decide
  exact key a (by omega) e (by omega) x
theorem x_311 {kn : Nat → Nat → Nat → Bool} (hb : b ≤ 1) (W : WIT b s n kn) (h16 : n ≤ 16) (hh : ∀ c, h = some c → c < n) {a e : Nat} (ha : a ≤ 6) (he : e ≤ 6) : mjF (d + 2) 311 [.ref 97, .int (cR b h), .int (oR a), .int (oR e)] (mjW0 s) = some (some (.int (b2 (kbG kn h a e))), mjW0 s) := by
  rw [e_311]
  unfold f_311 b_311_0 kbG
  cases h with
  | none =>
    rw [if_pos (show cR b none = -1 from rfl)]
    by_cases g : a = e
    · rw [if_pos ((oR_inj ha he).mpr g)]
      dsimp only
      rw [decide_eq_true g]
      rfl
    · rw [if_neg (fun x => g ((oR_inj ha he).mp x))]
      dsimp only
      rw [decide_eq_false g]
      rfl
  | some c =>
    have hc := hh c rfl
    have ra := rwR_lt (show a < 7 by omega)
    have re := rwR_lt (show e < 7 by omega)
    rw [if_neg (show ¬ cR b (some c) = -1 from nI_m1 (by omega)), xg_97_30, x_312 ha, bI_s, x_312 he, bI_s, show cR b (some c) = nI (16 * b + c) from rfl, show (49 : Int32) = nI 49 from rfl, show (7 : Int32) = nI 7 from rfl, nI_mul, nI_mul, nI_ad, nI_ad, wa_119 (by omega), W c hc a (by omega) e (by omega), if_pos (b2_nar _)]
end MJA68
end
section
/-! ===== the reference's judge: judgeNested, judgeKind ===== -/
def allR (f : Nat → Bool) : Nat → Nat → Bool
  | _, 0 => true
  | i, r + 1 => f i && allR f (i + 1) r
theorem allR_iff {f : Nat → Bool} : ∀ (r i : Nat), allR f i r = true ↔ ∀ j, i ≤ j → j < i + r → f j = true
  | 0, i => ⟨fun _ j h1 h2 => absurd h2 (by omega), fun _ => rfl⟩
  | r + 1, i => by
    show (f i && allR f (i + 1) r) = true ↔ _
    rw [Bool.and_eq_true, allR_iff r (i + 1)]
    constructor
    · intro ⟨a, b⟩ j h1 h2
      by_cases e : j = i
      · rw [e]; exact a
      · exact b j (by omega) (by omega)
    · intro h
      exact ⟨h i (by omega) (by omega), fun j h1 h2 => h j (by omega) (by omega)⟩
/-- the reference's INS -/
def IRr (T : TT) (L : List CD) (b : Nat) (s : mjSt3) : Prop := ∀ c, c < L.length → ∀ i, i < inL L c → s.1 117 (8 * (16 * b + c) + i) = nI (ipT T L c i).1 ∧ s.1 118 (8 * (16 * b + c) + i) = nI (ipT T L c i).2
/-- what the reference asks for two OWNERS of a TEXT -/
def kbR (T : TT) (L : List CD) (h : Option Nat) (a e : Nat) : Bool := kbG (knF T L) h a e
section MJA69
variable {T : TT} {d N b k t c n kk : Nat} {ks : List Nat} {L : List CD} {s s' : mjSt3} {h : Option Nat} {tr : Bool}
theorem L310_S (R : mjR) (n a : Nat) (b e f g i : Int32) (hp : mjH) : L_310_28 R (n + 1) a b e f g i hp = b_310_28 R (L_310_28 R n) a b e f g i hp := rfl
theorem L310b_S (R : mjR) (n a : Nat) (b e f g i : Int32) (hp : mjH) : L_310_87 R (n + 1) a b e f g i hp = b_310_87 R (L_310_87 R n) a b e f g i hp := rfl
theorem ip_lt (hn : HN T N L) (hc : c < L.length) (i : Nat) : (ipT T L c i).1 < nmL L c ∧ (ipT T L c i).2 < nmL L c := by
  have n1 := (hn.2 c hc).2.2.1
  have key : ∀ x, (nmK T L c x).getD 0 < nmL L c := by
    intro x
    cases hx : nmK T L c x with
    | none => show 0 < nmL L c; unfold nmL; omega
    | some y => exact fnd_lt hx
  exact ⟨key _, key _⟩
theorem i8m (b c : Nat) : (8 : Int32) * nI b + nI c = nI (8 * b + c) := by rw [show (8 : Int32) = nI 8 from rfl, nI_mul, nI_ad]
theorem b2_and {g f : Bool} {α : Type} (x y : α) : (if b2 g = 0 then x else if b2 f = 0 then x else y) = if (g && f) = true then y else x := by cases g <;> cases f <;> rfl
/-- the second loop: the INS of the KIND's CLASS -/
theorem lq_310b (J : RJ T N b ks L s) (W : WIT b s L.length (knF T L)) (I : IRr T L b s) (hh : ∀ c, h = some c → c < L.length) (hk : k < 1600) (v : vK L kk) (K : KRr b s k (nmL L (cK kk)) kk) : ∀ (r i m : Nat) (g : Bool), i + r = inL L (cK kk) → r < m → L_310_87 (mjF (d + 2)) m 97 (nI k) (cR b h) (nI (16 * b + cK kk)) (b2 g) (nI i) (mjW0 s) = if (g && allR (fun i => kbR T L h (oK kk (ipT T L (cK kk) i).1) (oK kk (ipT T L (cK kk) i).2)) i r) = true then some (none, mjW0 s) else bN (mjF (d + 2) 268 [.ref 97, .int 8, .int (s.1 137 k)] (mjW0 s)) (fun hp5 => some (none, hp5))
  | r, i, 0, g, e, hr => by omega
  | 0, i, m + 1, g, e, hr => by
    have hb := J.b1
    have h16 := J.len
    have hc := vK.cl J.2.2.2.2.2.1 v
    have H := J.hd hc
    have i8 : inL L (cK kk) ≤ 8 := H.2.2.2.2.2.2.2.2
    rw [L310b_S]
    unfold b_310_87
    rw [xg_97_17, wa_106 (by omega), show s.1 106 (16 * b + cK kk) = nI (inL L (cK kk)) from H.2.2.2.2.2.1.1, if_pos (nI_le (show inL L (cK kk) ≤ i by omega) (by omega))]
    show (if b2 g = 0 then _ else _) = if (g && true) = true then _ else _
    rw [Bool.and_true]
    cases g with
    | true => rfl
    | false => rw [if_pos (show b2 false = 0 from rfl), xg_97_48, wa_137 hk, xV_97]; rfl
  | r + 1, i, m + 1, g, e, hr => by
    have hb := J.b1
    have h16 := J.len
    have hn := J.2.2.2.2.2.1
    have hc := vK.cl hn v
    have H := J.hd hc
    have i8 : inL L (cK kk) ≤ 8 := H.2.2.2.2.2.2.2.2
    have ip := ip_lt hn hc i
    have n5 := vK.n5 hn hc
    have vo := vK.ow hn v
    obtain ⟨I1, I2⟩ := I (cK kk) hc i (by omega)
    rw [L310b_S]
    unfold b_310_87 b_310_157 b_310_158
    rw [xg_97_17, wa_106 (by omega), show s.1 106 (16 * b + cK kk) = nI (inL L (cK kk)) from H.2.2.2.2.2.1.1, if_neg (nI_ge (show i < inL L (cK kk) by omega) (by omega)), nI_1]
    have e1 : L_310_87 (mjF (d + 2)) m 97 (nI k) (cR b h) (nI (16 * b + cK kk)) 0 (nI (i + 1)) (mjW0 s) = bN (mjF (d + 2) 268 [.ref 97, .int 8, .int (s.1 137 k)] (mjW0 s)) (fun hp5 => some (none, hp5)) := by
      have := lq_310b J W I hh hk v K r (i + 1) m false (by omega) (by omega)
      rw [Bool.false_and] at this
      exact this
    rw [e1]
    show _ = if (g && (kbR T L h (oK kk (ipT T L (cK kk) i).1) (oK kk (ipT T L (cK kk) i).2) && allR (fun i => kbR T L h (oK kk (ipT T L (cK kk) i).1) (oK kk (ipT T L (cK kk) i).2)) (i + 1) r)) = true then _ else _
    cases g with
    | false => rfl
    | true =>
      rw [if_neg (show ¬ b2 true = 0 by decide), xg_97_53, xg_97_28, i8m, wa_117 (by omega), I1, i5m, wa_142 (by omega), K.2 _ ip.1, xg_97_53, xg_97_29, wa_118 (by omega), I2, i5m, wa_142 (by omega), K.2 _ ip.2, xV_97, x_311 hb W h16 hh (vo _ (by omega)) (vo _ (by omega)), bI_s, Bool.true_and]
      have e2 := lq_310b J W I hh hk v K r (i + 1) m true (by omega) (by omega)
      rw [Bool.true_and] at e2
      have e3 : L_310_87 (mjF (d + 2)) m 97 (nI k) (cR b h) (nI (16 * b + cK kk)) 1 (nI (i + 1)) (mjW0 s) = _ := e2
      rw [e3]
      show (if b2 (kbR T L h (oK kk (ipT T L (cK kk) i).1) (oK kk (ipT T L (cK kk) i).2)) = 0 then _ else _) = _
      cases kbR T L h (oK kk (ipT T L (cK kk) i).1) (oK kk (ipT T L (cK kk) i).2) with
      | false => rw [if_pos (show b2 false = 0 from rfl), e1]; rfl
      | true => rw [if_neg (show ¬ b2 true = 0 by decide), Bool.true_and]
/-- the first loop: the first OWNER in the others -/
theorem lq_310 (J : RJ T N b ks L s) (W : WIT b s L.length (knF T L)) (I : IRr T L b s) (hh : ∀ c, h = some c → c < L.length) (hk : k < 1600) (v : vK L kk) (K : KRr b s k (nmL L (cK kk)) kk) (hcn : s.1 138 k = nI (nmL L (cK kk))) : ∀ (r i m : Nat) (g : Bool), i + r = nmL L (cK kk) → r < m → L_310_28 (mjF (d + 2)) m 97 (nI k) (cR b h) (nI (16 * b + cK kk)) (b2 g) (nI i) (mjW0 s) = if (g && allR (fun i => kbR T L h (oK kk 0) (oK kk i)) i r && allR (fun i => kbR T L h (oK kk (ipT T L (cK kk) i).1) (oK kk (ipT T L (cK kk) i).2)) 0 (inL L (cK kk))) = true then some (none, mjW0 s) else bN (mjF (d + 2) 268 [.ref 97, .int 8, .int (s.1 137 k)] (mjW0 s)) (fun hp5 => some (none, hp5))
  | r, i, 0, g, e, hr => by omega
  | 0, i, m + 1, g, e, hr => by
    have hn := J.2.2.2.2.2.1
    have hc := vK.cl hn v
    have H := J.hd hc
    have i8 : inL L (cK kk) ≤ 8 := H.2.2.2.2.2.2.2.2
    have n5 := vK.n5 hn hc
    rw [L310_S]
    unfold b_310_28
    rw [xg_97_49, wa_138 hk, hcn, if_pos (nI_le (by omega) (by omega)), show (0 : Int32) = nI 0 from rfl, lq_310b (d := d) J W I hh hk v K (inL L (cK kk)) 0 mjN g (by omega) (by have := mjN_v; omega)]
    show _ = if (g && true && _) = true then _ else _
    rw [Bool.and_true]
  | r + 1, i, m + 1, g, e, hr => by
    have hb := J.b1
    have h16 := J.len
    have hn := J.2.2.2.2.2.1
    have hc := vK.cl hn v
    have n5 := vK.n5 hn hc
    have vo := vK.ow hn v
    rw [L310_S]
    unfold b_310_28 b_310_75 b_310_76
    rw [xg_97_49, wa_138 hk, hcn, if_neg (nI_ge (by omega) (by omega)), nI_1]
    have e1 : L_310_28 (mjF (d + 2)) m 97 (nI k) (cR b h) (nI (16 * b + cK kk)) 0 (nI (i + 1)) (mjW0 s) = bN (mjF (d + 2) 268 [.ref 97, .int 8, .int (s.1 137 k)] (mjW0 s)) (fun hp5 => some (none, hp5)) := by
      have := lq_310 J W I hh hk v K hcn r (i + 1) m false (by omega) (by omega)
      rw [Bool.false_and, Bool.false_and] at this
      exact this
    rw [e1]
    show _ = if (g && (kbR T L h (oK kk 0) (oK kk i) && allR (fun i => kbR T L h (oK kk 0) (oK kk i)) (i + 1) r) && _) = true then _ else _
    cases g with
    | false => rfl
    | true =>
      rw [if_neg (show ¬ b2 true = 0 by decide), xg_97_53, show (5 : Int32) * nI k = nI (5 * k) by rw [show (5 : Int32) = nI 5 from rfl, nI_mul], wa_142 (by omega), show s.1 142 (5 * k) = oR (oK kk 0) from K.2 0 (by omega), xg_97_53, nI_ad, wa_142 (by omega), K.2 i (by omega), xV_97, x_311 hb W h16 hh (vo _ (by omega)) (vo _ (by omega)), bI_s, Bool.true_and]
      have e2 := lq_310 J W I hh hk v K hcn r (i + 1) m true (by omega) (by omega)
      rw [Bool.true_and] at e2
      have e3 : L_310_28 (mjF (d + 2)) m 97 (nI k) (cR b h) (nI (16 * b + cK kk)) 1 (nI (i + 1)) (mjW0 s) = _ := e2
      rw [e3]
      show (if b2 (kbR T L h (oK kk 0) (oK kk i)) = 0 then _ else _) = _
      cases kbR T L h (oK kk 0) (oK kk i) with
      | false => rw [if_pos (show b2 false = 0 from rfl), e1]; rfl
      | true => rw [if_neg (show ¬ b2 true = 0 by decide), Bool.true_and]
/-- the reference's question is the class's -/
theorem kb_nst (hn : HN T N L) (hc : cK kk < L.length) (hm : h = none → ∀ i, i < nmL L (cK kk) → oK kk i = 5) : (true && allR (fun i => kbR T L h (oK kk 0) (oK kk i)) 1 (nmL L (cK kk) - 1) && allR (fun i => kbR T L h (oK kk (ipT T L (cK kk) i).1) (oK kk (ipT T L (cK kk) i).2)) 0 (inL L (cK kk))) = nsT T L h kk := by
  have n1 := (vK.n5 hn hc).1
  have kb : ∀ i j, i < nmL L (cK kk) → j < nmL L (cK kk) → kbR T L h (oK kk i) (oK kk j) = knB (knF T L) h (oK kk i) (oK kk j) := by
    intro i j hi hj
    cases h with
    | none =>
      rw [hm rfl i hi, hm rfl j hj]
      rfl
    | some c => rfl
  rw [Bool.true_and, Bool.eq_iff_iff, Bool.and_eq_true, allR_iff, allR_iff]
  unfold nsT nst
  rw [Bool.and_eq_true, allB_iff, allB_iff]
  constructor
  · intro ⟨a, e⟩
    refine ⟨fun i hi => ?_, fun i hi => ?_⟩
    · by_cases e0 : i = 0
      · rw [decide_eq_true e0]; rfl
      · rw [decide_eq_false e0, Bool.false_or, ← kb 0 i (by omega) hi]
        exact a i (by omega) (by omega)
    · rw [← kb _ _ (ip_lt hn hc i).1 (ip_lt hn hc i).2]
      exact e i (by omega) (by omega)
  · intro ⟨a, e⟩
    refine ⟨fun i h1 h2 => ?_, fun i _ hi => ?_⟩
    · have := a i (by omega)
      rw [decide_eq_false (by omega), Bool.false_or, ← kb 0 i (by omega) (by omega)] at this
      exact this
    · rw [kb _ _ (ip_lt hn hc i).1 (ip_lt hn hc i).2]
      exact e i (by omega)
/-- judgeNested of a KIND whose CLASS and OWNERS are found -/
theorem x_310 (J : RJ T N b ks L s) (W : WIT b s L.length (knF T L)) (I : IRr T L b s) (ht : s.1 97 129 = b2 tr) (hh : ∀ c, h = some c → c < L.length) (hk : k < 1600) (v : vK L kk) (g : GR s) (K : gR0 s → KRr b s k (nmL L (cK kk)) kk ∧ s.1 138 k = nI (nmL L (cK kk))) (hm : h = none → ∀ i, i < nmL L (cK kk) → oK kk i = 5) : ∃ s', mjF (d + 3) 310 [.ref 97, .int (nI k), .int (cR b h)] (mjW0 s) = some (none, mjW0 s') ∧ o61 s s' ∧ GR s' ∧ (gR0 s' ↔ gR0 s ∧ (tr || nsT T L h kk) = true) := by
  have hn := J.2.2.2.2.2.1
  have hc := vK.cl hn v
  have n1 := vK.n5 hn hc
  rw [e_310]
  unfold f_310 b_310_0
  rw [xg_97_129, ht]
  cases tr with
  | true =>
    rw [if_neg (show ¬ b2 true = 0 by decide)]
    exact ⟨s, rfl, offG.rf, g, ⟨fun x => ⟨x, rfl⟩, fun x => x.1⟩⟩
  | false =>
    rw [if_pos (show b2 false = 0 from rfl), xg_97_61, Bool.false_or]
    rcases g with g0 | g0
    · have g0' : s.1 97 61 = 0 := g0
      obtain ⟨K1, K2⟩ := K g0
      rw [g0', if_pos (Int32.le_refl _), xg_97_50, wa_139 hk, K1.1, show (1 : Int32) = nI 1 from rfl]
      have e := lq_310 (d := d) J W I hh hk v K1 K2 (nmL L (cK kk) - 1) 1 mjN true (by omega) (by have := mjN_v; omega)
      rw [kb_nst hn hc hm] at e
      rw [show L_310_28 (mjF (d + 2)) mjN 97 (nI k) (cR b h) (nI (16 * b + cK kk)) (nI 1) (nI 1) (mjW0 s) = _ from e]
      by_cases ns : nsT T L h kk = true
      · rw [if_pos ns]
        exact ⟨s, rfl, offG.rf, Or.inl g0, ⟨fun x => ⟨x, ns⟩, fun x => x.1⟩⟩
      · rw [if_neg ns]
        obtain ⟨s', a1, a2, a3⟩ := x_268 (d := d + 1) (s := s) (Or.inl g0) (a := 8) (by decide) (s.1 137 k)
        rw [a1, bN_s]
        exact ⟨s', rfl, a2, Or.inr a3, ⟨fun x => absurd x a3.ng, fun x => absurd x.2 ns⟩⟩
    · have g0' : ¬ s.1 97 61 ≤ 0 := g0
      rw [if_neg g0']
      exact ⟨s, rfl, offG.rf, Or.inr g0, ⟨fun x => absurd x g0.ng, fun x => absurd x.1 g0.ng⟩⟩
end MJA69
end
section
/-! ===== the reference's judge: judgeKind, TYPES ===== -/
/-- a TYPE's number as the reader gave it: -1, or the KIND's -/
def TyI (T : TT) (b : Nat) (ks : List Nat) (t : Nat) (ti : Int32) : Prop := ((T t).1 = 10 ∧ ti = -1) ∨ (¬ (T t).1 = 10 ∧ ∃ i, ks[i]? = some t ∧ ti = nI (800 * b + i))
/-- a TYPE that was judged: 0 int, k + 2 a KIND -/
def TKr (L : List CD) (b : Nat) (s : mjSt3) (ti : Int32) (ty : Nat) : Prop := match ty with
  | 0 => ti = -1
  | 1 => False
  | kk + 2 => vK L kk ∧ ∃ k, k < 1600 ∧ ti = nI k ∧ s.1 138 k = nI (nmL L (cK kk)) ∧ KRr b s k (nmL L (cK kk)) kk
/-- all that the judging of TYPES changes; only KINDS of these numbers -/
def oTy (P : Nat → Prop) : mjSt3 → mjSt3 → Prop := offG (fun h j => (h = 97 ∧ (j = 61 ∨ j = 62)) ∨ (h = 139 ∧ P j) ∨ (h = 142 ∧ P (j / 5))) (fun _ _ => False)
section MJA70
variable {T : TT} {d N b k t c n kk : Nat} {ks : List Nat} {L : List CD} {s s' : mjSt3} {h : Option Nat} {tr : Bool} {P Q : Nat → Prop} {ti : Int32}
theorem oNm.Ty (o : oNm k s s') : oTy (fun x => x = k) s s' := offG.mono o (fun x y z => by
  rcases z with z | z | z
  · exact Or.inl z
  · exact Or.inr (Or.inl z)
  · refine Or.inr (Or.inr ⟨z.1, ?_⟩)
    show y / 5 = k
    omega) (fun _ _ z => z)
theorem oTy.mono (o : oTy P s s') (h : ∀ x, P x → Q x) : oTy Q s s' := offG.mono o (fun x y z => z.elim Or.inl (fun z => z.elim (fun z => Or.inr (Or.inl ⟨z.1, h _ z.2⟩)) (fun z => Or.inr (Or.inr ⟨z.1, h _ z.2⟩)))) (fun _ _ z => z)
theorem o61.Ty (o : o61 s s') : oTy P s s' := offG.mono o (fun _ _ z => Or.inl z) (fun _ _ z => z)
theorem oTy.l (o : oTy P s s') : s'.2 = s.2 := Prod.ext (funext fun x => funext fun j => o.2.1 x j (fun e => e)) o.2.2
theorem oTy.r (o : oTy P s s') {h : Nat} (h1 : ¬ h = 97) (h2 : ¬ h = 139) (h3 : ¬ h = 142) : s'.1 h = s.1 h := funext fun j => o.1 h j (fun e => e.elim (fun e => h1 e.1) (fun e => e.elim (fun e => h2 e.1) (fun e => h3 e.1)))
theorem oTy.f (o : oTy P s s') {j : Nat} (h1 : ¬ j = 61) (h2 : ¬ j = 62) : s'.1 97 j = s.1 97 j := o.1 97 j (fun e => e.elim (fun e => e.2.elim h1 h2) (fun e => e.elim (fun e => absurd e.1 (by decide)) (fun e => absurd e.1 (by decide))))
theorem oTy.J (o : oTy P s s') (J : RJ T N b ks L s) : RJ T N b ks L s' := J.off (o.f (by decide) (by decide)) (fun x hx => o.r (by omega) (by omega) (by omega)) (by rw [o.l])
theorem KRr.keep {m : Nat} (K : KRr b s k m kk) (hm : m ≤ 5) (o : oTy P s s') (hk : ¬ P k) : KRr b s' k m kk := by
  refine ⟨?_, fun i hi => ?_⟩
  · rw [o.1 139 k (fun e => e.elim (fun e => absurd e.1 (by decide)) (fun e => e.elim (fun e => hk e.2) (fun e => absurd e.1 (by decide))))]
    exact K.1
  · rw [o.1 142 (5 * k + i) (fun e => e.elim (fun e => absurd e.1 (by decide)) (fun e => e.elim (fun e => absurd e.1 (by decide)) (fun e => hk (by
      have := e.2
      rw [show (5 * k + i) / 5 = k by omega] at this
      exact this))))]
    exact K.2 i hi
theorem TKr.keep (hn : HN T N L) {ty : Nat} (K : TKr L b s ti ty) (o : oTy P s s') (hk : ∀ k, k < 1600 → ti = nI k → ¬ P k) : TKr L b s' ti ty := by
  match ty, K with
  | 0, K => exact K
  | kk + 2, ⟨v, k, k1, k2, k3, k4⟩ => exact ⟨v, k, k1, k2, by rw [o.r (by decide) (by decide) (by decide)]; exact k3, k4.keep (vK.n5 hn (vK.cl hn v)).2 o (hk k k1 k2)⟩
theorem x_310n (g : bR0 s) {ti ci : Int32} : mjF (d + 1) 310 [.ref 97, .int ti, .int ci] (mjW0 s) = some (none, mjW0 s) := by
  have g' : ¬ s.1 97 61 ≤ 0 := g
  rw [e_310]
  unfold f_310 b_310_0
  rw [xg_97_129, xg_97_61, if_neg g', ite_self]
theorem kd_vK (hn : HN T N L) (hh : ∀ c, h = some c → c < L.length) {beh : Bool} (hk : kdT T L h beh t = some kk) : vK L kk ∧ cntO T 6 (t + 2) = nmL L (cK kk) ∧ (h = none → ∀ i, i < nmL L (cK kk) → oK kk i = 5) := by
  unfold kdT at hk
  cases hc : clsK T L (kyT T t) with
  | none => rw [hc] at hk; cases hk
  | some e =>
    rw [hc] at hk
    dsimp only at hk
    have he : e < L.length := fnd_lt hc
    have n5 := vK.n5 hn he
    by_cases g : cntO T 6 (t + 2) = (hC L e).2.1
    · rw [if_pos g] at hk
      cases hf : fnd (fun i => decide (owT T L h beh (t + 2 + 2 * i) = none)) (hC L e).2.1 with
      | some i => rw [hf] at hk; cases hk
      | none =>
        rw [hf] at hk
        cases hk
        have fl : ∀ i, i < nmL L e → (owT T L h beh (t + 2 + 2 * i)).getD 0 ≤ 6 := by
          intro i hi
          cases ho : owT T L h beh (t + 2 + 2 * i) with
          | none => show 0 ≤ 6; omega
          | some x => exact owT_le hn hh ho
        have f8 : ∀ i, i < nmL L e → (owT T L h beh (t + 2 + 2 * i)).getD 0 < 8 := fun i hi => by have := fl i hi; omega
        have ec : cK (mkK e (hC L e).2.1 (fun i => (owT T L h beh (t + 2 + 2 * i)).getD 0)) = e := mkK_c n5.2 f8
        refine ⟨⟨e, _, he, rfl, fl⟩, by rw [ec]; exact g, fun hn0 i hi => ?_⟩
        rw [ec] at hi
        show oK (mkK e (nmL L e) _) i = 5
        rw [mkK_o n5.2 f8 hi]
        have nn := of_decide_eq_false (fnd_none.mp hf i hi)
        subst hn0
        unfold owT at nn ⊢
        by_cases g13 : (T (t + 2 + 2 * i)).1 = 13
        · rw [if_pos g13]; rfl
        · rw [if_neg g13] at nn
          exact absurd rfl nn
    · rw [if_neg g] at hk; cases hk
/-- judgeKind of a TYPE -/
theorem x_313 (J : RJ T N b ks L s) (W : WIT b s L.length (knF T L)) (I : IRr T L b s) (htr : s.1 97 129 = b2 tr) (hh : ∀ c, h = some c → c < L.length) (hT : TyI T b ks t ti) (hk : TYk T N t) (g : GR s) : ∃ s', mjF (d + 4) 313 [.ref 97, .int ti, .int (cR b h)] (mjW0 s) = some (none, mjW0 s') ∧ oTy (fun x => ti = nI x ∧ x < 1600) s s' ∧ GR s' ∧ (gR0 s' ↔ gR0 s ∧ tyOK T L tr h t) ∧ (gR0 s' → TKr L b s' ti (tyT T L h t)) := by
  have hb := J.b1
  have hn := J.2.2.2.2.2.1
  rw [e_313]
  unfold f_313 b_313_0
  rcases hT with ⟨a1, a2⟩ | ⟨a1, i, a2, a3⟩
  · rw [a2, if_neg (show ¬ (0 : Int32) ≤ -1 by decide)]
    refine ⟨s, rfl, offG.rf, g, ⟨fun x => ⟨x, fun e => absurd a1 e⟩, fun x => x.1⟩, fun _ => ?_⟩
    unfold tyT
    rw [if_pos a1]
    rfl
  · have hi := (List.getElem?_eq_some_iff.mp a2).1
    have l750 := J.2.2.2.1
    have Kk := J.2.2.1 i t a2
    have KD : KDk T N t := by
      rcases hk with ⟨x, _⟩ | ⟨_, x⟩
      · exact absurd x a1
      · exact x
    have k16 : 800 * b + i < 1600 := by omega
    rw [a3, if_pos (nI_pos' (by omega)), xV_97]
    obtain ⟨s1, e1, o1, g1, i1, r1⟩ := x_302 (d := d) (beh := false) J hh k16 KD Kk g
    rw [show (0 : Int32) = b2 false from rfl, e1, bN_s, xV_97]
    have J1 := oNm.J o1 J
    have o1' : oTy (fun x => nI (800 * b + i) = nI x ∧ x < 1600) s s1 := (oNm.Ty o1).mono (fun x hx => by subst hx; exact ⟨rfl, k16⟩)
    have r119 : ∀ x, ¬ x = 97 → ¬ x = 139 → ¬ x = 142 → s1.1 x = s.1 x := fun x h1 h2 h3 => o1'.r h1 h2 h3
    have W1 : WIT b s1 L.length (knF T L) := by unfold WIT; rw [r119 119 (by decide) (by decide) (by decide)]; exact W
    have I1 : IRr T L b s1 := by unfold IRr; rw [r119 117 (by decide) (by decide) (by decide), r119 118 (by decide) (by decide) (by decide)]; exact I
    have ht1 : s1.1 97 129 = b2 tr := by rw [o1'.f (by decide) (by decide)]; exact htr
    have okI : tyOK T L tr h t ↔ ∃ kk, kdT T L h false t = some kk ∧ (tr || nsT T L h kk) = true := ⟨fun x => x a1, fun x _ => x⟩
    cases hkd : kdT T L h false t with
    | none =>
      have b1 : bR0 s1 := g1.ng (fun x => (i1.mp x).2 hkd)
      rw [x_310n (d := d + 2) b1, bN_s]
      refine ⟨s1, rfl, o1', g1, ⟨fun x => absurd x b1.ng, fun x => ?_⟩, fun x => absurd x b1.ng⟩
      obtain ⟨kk, q1, _⟩ := okI.mp x.2
      rw [hkd] at q1
      cases q1
    | some kk =>
      obtain ⟨v, cn, hm⟩ := kd_vK hn hh hkd
      have K138 : s1.1 138 (800 * b + i) = nI (nmL L (cK kk)) := by rw [r119 138 (by decide) (by decide) (by decide), Kk.2.2.2.1, cn]
      obtain ⟨s2, e2, o2, g2, i2⟩ := x_310 (d := d) J1 W1 I1 ht1 hh k16 v g1 (fun x => ⟨by have := r1 x kk hkd; rw [cn] at this; exact this, K138⟩) hm
      rw [e2, bN_s]
      refine ⟨s2, rfl, o1'.tr (o61.Ty o2), g2, ?_, fun x => ?_⟩
      · rw [i2, i1, hkd]
        constructor
        · intro ⟨⟨x1, _⟩, x3⟩
          exact ⟨x1, okI.mpr ⟨kk, hkd, x3⟩⟩
        · intro ⟨x1, x2⟩
          obtain ⟨kk', q1, q2⟩ := okI.mp x2
          rw [hkd] at q1
          cases q1
          exact ⟨⟨x1, fun y => by cases y⟩, q2⟩
      · have := r1 (i2.mp x).1 kk hkd
        rw [cn] at this
        unfold tyT
        rw [if_neg a1, hkd]
        refine ⟨v, 800 * b + i, k16, rfl, ?_, ?_⟩
        · rw [funext fun j => o2.1 138 j (fun e => absurd e.1 (by decide))]; exact K138
        · refine ⟨?_, fun j hj => ?_⟩
          · rw [o2.1 139 _ (fun e => absurd e.1 (by decide))]; exact this.1
          · rw [o2.1 142 _ (fun e => absurd e.1 (by decide))]; exact this.2 j hj
end MJA70
end
section
/-! ===== the reference's judge: knows ===== -/
def MX (C : Nat) (s : mjSt3) (w : Nat → Nat → Bool) : Prop := ∀ i, i < 7 → ∀ j, j < 7 → s.1 119 (49 * C + 7 * i + j) = b2 (w i j)
def oW (C : Nat) : mjSt3 → mjSt3 → Prop := offG (fun h j => h = 119 ∧ 49 * C ≤ j ∧ j < 49 * C + 49) (fun _ _ => False)
theorem dv49 : ∀ k, k < 49 → nI k / 7 = nI (k / 7) ∧ nI k - nI k / 7 * 7 = nI (k % 7) := by decide
theorem clo_rm {w : Nat → Nat → Bool} (m i : Nat) : clo w (m + 1) i m = clo w m i m := by
  show (clo w m i m || (clo w m i m && clo w m m m)) = _
  cases clo w m i m <;> rfl
theorem clo_mr {w : Nat → Nat → Bool} (m j : Nat) : clo w (m + 1) m j = clo w m m j := by
  show (clo w m m j || (clo w m m m && clo w m m j)) = _
  cases clo w m m j <;> cases clo w m m m <;> rfl
section MJA71
variable {T : TT} {d N b c n C : Nat} {ks : List Nat} {L : List CD} {s s' : mjSt3} {w w' : Nat → Nat → Bool}
theorem MX.cg (h : MX C s w) (e : ∀ i j, i < 7 → j < 7 → w i j = w' i j) : MX C s w' := fun i hi j hj => by rw [h i hi j hj, e i j hi hj]
theorem MX.st (h : MX C s w) {x y : Nat} (hx : x < 7) (hy : y < 7) : MX C (uI s 119 (upd (s.1 119) (49 * C + 7 * x + y) 1)) (fun i j => w i j || (decide (i = x) && decide (j = y))) := by
  intro i hi j hj
  rw [uI_same, upd_g]
  by_cases e : i = x ∧ j = y
  · rw [if_pos (by rw [e.1, e.2]), e.1, e.2]
    dsimp only
    rw [decide_eq_true rfl, decide_eq_true rfl]
    cases w x y <;> rfl
  · rw [if_neg (by omega), h i hi j hj]
    dsimp only
    have : (decide (i = x) && decide (j = y)) = false := by
      rw [Bool.and_eq_false_iff]
      by_cases e1 : i = x
      · exact Or.inr (decide_eq_false (fun e2 => e ⟨e1, e2⟩))
      · exact Or.inl (decide_eq_false e1)
    rw [this, Bool.or_false]
theorem oW.st {x : Nat} {v : Int32} (hx : x < 49) : oW C s (uI s 119 (upd (s.1 119) (49 * C + x) v)) := offG.w ⟨rfl, by omega, by omega⟩
theorem L308_7 (R : mjR) (n a : Nat) (b e f : Int32) (hp : mjH) : L_308_7 R (n + 1) a b e f hp = b_308_7 R (L_308_7 R n) a b e f hp := rfl
theorem L308_64 (R : mjR) (n a : Nat) (b e f : Int32) (hp : mjH) : L_308_64 R (n + 1) a b e f hp = b_308_64 R (L_308_64 R n) a b e f hp := rfl
theorem L308_94 (R : mjR) (n a : Nat) (b e f : Int32) (hp : mjH) : L_308_94 R (n + 1) a b e f hp = b_308_94 R (L_308_94 R n) a b e f hp := rfl
theorem L308_141 (R : mjR) (n a : Nat) (b e : Int32) (hp : mjH) : L_308_141 R (n + 1) a b e hp = b_308_141 R (L_308_141 R n) a b e hp := rfl
theorem L308_150 (R : mjR) (k : Nat → Int32 → Int32 → mjH → mjU) (n a : Nat) (b e f : Int32) (hp : mjH) : L_308_150 R k (n + 1) a b e f hp = b_308_150 R k (L_308_150 R k n) a b e f hp := rfl
theorem L308_160 (R : mjR) (k : Nat → Int32 → Int32 → mjH → mjU) (k' : Nat → Int32 → Int32 → Int32 → mjH → mjU) (n a : Nat) (b e f g : Int32) (hp : mjH) : L_308_160 R k k' (n + 1) a b e f g hp = b_308_160 R k k' (L_308_160 R k k' n) a b e f g hp := rfl
theorem nar1b : vp_nar .boolean 1 = 1 := rfl
theorem nar0b : vp_nar .boolean 0 = 0 := rfl
/-- the table's beginning -/
theorem lq_308a (R : mjR) (hC : C < 32) : ∀ (r k m : Nat) (s : mjSt3), k + r = 49 → r < m → (∀ x, x < k → s.1 119 (49 * C + x) = b2 (decide (x / 7 = x % 7) || decide (x % 7 = 6))) → ∃ s' m', L_308_7 R m 97 (nI C) (nI (49 * C)) (nI k) (mjW0 s) = b_308_7 R (L_308_7 R m') 97 (nI C) (nI (49 * C)) (nI 49) (mjW0 s') ∧ oW C s s' ∧ ∀ x, x < 49 → s'.1 119 (49 * C + x) = b2 (decide (x / 7 = x % 7) || decide (x % 7 = 6))
  | r, k, 0, s, e, hr, h => by omega
  | 0, k, m + 1, s, e, hr, h => ⟨s, m, by rw [show k = 49 by omega, L308_7], offG.rf, fun x hx => h x (by omega)⟩
  | r + 1, k, m + 1, s, e, hr, h => by
    obtain ⟨v, hv⟩ : ∃ v, v = b2 (decide (k / 7 = k % 7) || decide (k % 7 = 6)) := ⟨_, rfl⟩
    have D := dv49 k (by omega)
    have pre : L_308_7 R (m + 1) 97 (nI C) (nI (49 * C)) (nI k) (mjW0 s) = L_308_7 R m 97 (nI C) (nI (49 * C)) (nI (k + 1)) (mjW0 (uI s 119 (upd (s.1 119) (49 * C + k) v))) := by
      rw [L308_7]
      unfold b_308_7 b_308_40 b_308_45
      rw [if_neg (show ¬ (49 : Int32) ≤ nI k from nI_ge (b := 49) (by omega) (by decide)), xg_97_30, D.2, D.1, nI_ad, nI_1]
      by_cases g1 : k / 7 = k % 7
      · have v1 : v = 1 := by rw [hv, decide_eq_true g1]; rfl
        rw [if_pos (show nI (k / 7) = nI (k % 7) by rw [g1]), ws_119 (by omega), nar1b, v1]
      · rw [if_neg (show ¬ nI (k / 7) = nI (k % 7) from fun x => g1 ((nI_eq (by omega) (by omega)).mp x))]
        by_cases g2 : k % 7 = 6
        · have v1 : v = 1 := by rw [hv, decide_eq_true g2, Bool.or_true]; rfl
          rw [if_pos (show nI (k % 7) = 6 by rw [g2]; rfl), ws_119 (by omega), nar1b, v1]
        · have v0 : v = 0 := by rw [hv, decide_eq_false g1, decide_eq_false g2]; rfl
          rw [if_neg (show ¬ nI (k % 7) = 6 from fun x => g2 ((nI_eq (b := 6) (by omega) (by omega)).mp x)), ws_119 (by omega), nar0b, v0]
    obtain ⟨s', m', a1, a2, a3⟩ := lq_308a R hC r (k + 1) m (uI s 119 (upd (s.1 119) (49 * C + k) v)) (by omega) (by omega) (fun x hx => by
      rw [uI_same, upd_g]
      by_cases e' : x = k
      · rw [if_pos (by omega), e', hv]
      · rw [if_neg (by omega)]; exact h x (by omega))
    exact ⟨s', m', pre.trans a1, (oW.st (by omega)).tr a2, a3⟩
/-- the first NAME is IN the others -/
theorem lq_308b (R : mjR) (hC : C < 32) (hn : n ≤ 5) : ∀ (r k m : Nat) (s : mjSt3), k + r = n → r < m → s.1 104 C = nI n → MX C s (fun i j => w i j || (decide (i = 0) && decide (j < k))) → ∃ s', L_308_64 R m 97 (nI C) (nI (49 * C)) (nI k) (mjW0 s) = L_308_94 R mjN 97 (nI C) (nI (49 * C)) (nI (8 * C)) (mjW0 s') ∧ oW C s s' ∧ MX C s' (fun i j => w i j || (decide (i = 0) && decide (j < n)))
  | r, k, 0, s, e, hr, h4, h => by omega
  | 0, k, m + 1, s, e, hr, h4, h => by
    refine ⟨s, ?_, offG.rf, by rw [show n = k by omega]; exact h⟩
    rw [L308_64]
    unfold b_308_64
    rw [xg_97_15, wa_104 (by omega), h4, if_pos (nI_le (by omega) (by omega)), show (8 : Int32) = nI 8 from rfl, nI_mul]
  | r + 1, k, m + 1, s, e, hr, h4, h => by
    have hk : k < 7 := by omega
    have st := h.st (x := 0) (y := k) (by omega) hk
    rw [show 49 * C + 7 * 0 + k = 49 * C + k by omega] at st
    obtain ⟨s', a1, a2, a3⟩ := lq_308b R hC hn r (k + 1) m (uI s 119 (upd (s.1 119) (49 * C + k) 1)) (by omega) (by omega) (by rw [uI_ne _ _ _ _ (by decide)]; exact h4) (st.cg (fun i j _ _ => by
      try dsimp only
      by_cases e1 : i = 0
      · by_cases e2 : j = k
        · rw [decide_eq_true e1, decide_eq_true e2, decide_eq_true (show j < k + 1 by omega)]; cases w i j <;> simp
        · rw [decide_eq_false e2, Bool.and_false, Bool.or_false, decide_eq_decide.mpr (show j < k ↔ j < k + 1 by omega)]
      · rw [decide_eq_false e1]; simp))
    refine ⟨s', ?_, (oW.st (by omega)).tr a2, a3⟩
    rw [← a1, L308_64]
    unfold b_308_64
    rw [xg_97_15, wa_104 (by omega), h4, if_neg (nI_ge (by omega) (by omega)), xg_97_30, nI_ad, ws_119 (by omega), nar1b, nI_1]
/-- the INS that were told -/
theorem lq_308c (R : mjR) (hC : C < 32) {iN : Nat} {ip : Nat → Nat × Nat} (hi : iN ≤ 8) (hip : ∀ x, x < iN → (ip x).1 < 7 ∧ (ip x).2 < 7) : ∀ (r k m : Nat) (s : mjSt3), k + r = iN → r < m → s.1 106 C = nI iN → (∀ x, x < iN → s.1 117 (8 * C + x) = nI (ip x).1 ∧ s.1 118 (8 * C + x) = nI (ip x).2) → MX C s (fun i j => w i j || anyB (fun x => decide (ip x = (i, j))) k) → ∃ s', L_308_94 R m 97 (nI C) (nI (49 * C)) (nI (8 * C + k)) (mjW0 s) = L_308_141 R mjN 97 (nI (49 * C)) (nI 0) (mjW0 s') ∧ oW C s s' ∧ MX C s' (fun i j => w i j || anyB (fun x => decide (ip x = (i, j))) iN)
  | r, k, 0, s, e, hr, h6, hs, h => by omega
  | 0, k, m + 1, s, e, hr, h6, hs, h => by
    refine ⟨s, ?_, offG.rf, by rw [show iN = k by omega]; exact h⟩
    rw [L308_94]
    unfold b_308_94
    rw [xg_97_17, wa_106 (by omega), h6, i8m, if_pos (nI_le (by omega) (by omega))]
    rfl
  | r + 1, k, m + 1, s, e, hr, h6, hs, h => by
    obtain ⟨p1, p2⟩ := hip k (by omega)
    obtain ⟨q1, q2⟩ := hs k (by omega)
    have st := h.st p1 p2
    obtain ⟨s', a1, a2, a3⟩ := lq_308c R hC hi hip r (k + 1) m (uI s 119 (upd (s.1 119) (49 * C + 7 * (ip k).1 + (ip k).2) 1)) (by omega) (by omega) (by rw [uI_ne _ _ _ _ (by decide)]; exact h6) (fun x hx => by rw [uI_ne _ _ _ _ (by decide), uI_ne _ _ _ _ (by decide)]; exact hs x hx) (st.cg (fun i j _ _ => by
      try dsimp only
      show (w i j || anyB (fun x => decide (ip x = (i, j))) k || (decide (i = (ip k).1) && decide (j = (ip k).2))) = (w i j || (anyB (fun x => decide (ip x = (i, j))) k || decide (ip k = (i, j))))
      have : (decide (i = (ip k).1) && decide (j = (ip k).2)) = decide (ip k = (i, j)) := by
        rw [Bool.eq_iff_iff, Bool.and_eq_true, decide_eq_true_iff, decide_eq_true_iff, decide_eq_true_iff]
        constructor
        · intro ⟨x, y⟩; rw [x, y]
        · intro x; rw [x]; exact ⟨rfl, rfl⟩
      rw [this, Bool.or_assoc]))
    refine ⟨s', ?_, ?_, a3⟩
    · rw [show 8 * C + (k + 1) = 8 * C + k + 1 by omega] at a1
      rw [← a1, L308_94]
      unfold b_308_94
      rw [xg_97_17, wa_106 (by omega), h6, i8m, if_neg (nI_ge (by omega) (by omega)), xg_97_30, xg_97_28, wa_117 (by omega), q1, xg_97_29, wa_118 (by omega), q2, show (7 : Int32) = nI 7 from rfl, nI_mul, nI_ad, nI_ad, ws_119 (by omega), nar1b, nI_1]
    · have o1 : oW C s (uI s 119 (upd (s.1 119) (49 * C + 7 * (ip k).1 + (ip k).2) 1)) := offG.w ⟨rfl, by omega, by omega⟩
      exact o1.tr a2
/-- closing: while round m is at i, j -/
def wmm (w : Nat → Nat → Bool) (m i j x y : Nat) : Bool := if x < i ∨ (x = i ∧ y < j) then clo w (m + 1) x y else clo w m x y
theorem lq_308j (R : mjR) (hC : C < 32) {k1 : Nat → Int32 → Int32 → mjH → mjU} {k2 : Nat → Int32 → Int32 → Int32 → mjH → mjU} {m i : Nat} (hm : m < 7) (hi : i < 7) : ∀ (r j n : Nat) (s : mjSt3), j + r = 7 → r < n → MX C s (wmm w m i j) → ∃ s', L_308_160 R k1 k2 n 97 (nI (49 * C)) (nI m) (nI i) (nI j) (mjW0 s) = k2 97 (nI (49 * C)) (nI m) (nI (i + 1)) (mjW0 s') ∧ oW C s s' ∧ MX C s' (wmm w m i 7)
  | r, j, 0, s, e, hr, h => by omega
  | 0, j, n + 1, s, e, hr, h => by
    refine ⟨s, ?_, offG.rf, by rw [show 7 = j by omega]; exact h⟩
    rw [L308_160]
    unfold b_308_160
    rw [if_pos (show (7 : Int32) ≤ nI j from nI_le (a := 7) (show 7 ≤ j by omega) (by omega)), nI_1]
  | r + 1, j, n + 1, s, e, hr, h => by
    have r1 : s.1 119 (49 * C + 7 * i + m) = b2 (clo w m i m) := by
      rw [h i hi m hm]
      unfold wmm
      by_cases g : i < i ∨ (i = i ∧ m < j)
      · rw [if_pos g, clo_rm]
      · rw [if_neg g]
    have r2 : s.1 119 (49 * C + 7 * m + j) = b2 (clo w m m j) := by
      rw [h m hm j (by omega)]
      unfold wmm
      by_cases g : m < i ∨ (m = i ∧ j < j)
      · rw [if_pos g, clo_mr]
      · rw [if_neg g]
    have keep : (clo w m i m && clo w m m j) = false → MX C s (wmm w m i (j + 1)) := by
      intro hf
      refine h.cg (fun x y hx hy => ?_)
      unfold wmm
      by_cases e1 : x = i ∧ y = j
      · rw [e1.1, e1.2, if_neg (by omega), if_pos (by omega)]
        show _ = (clo w m i j || (clo w m i m && clo w m m j))
        rw [hf, Bool.or_false]
      · by_cases g : x < i ∨ (x = i ∧ y < j)
        · rw [if_pos g, if_pos (by omega)]
        · rw [if_neg g, if_neg (by omega)]
    have go : ∀ z, oW C s z → MX C z (wmm w m i (j + 1)) → L_308_160 R k1 k2 (n + 1) 97 (nI (49 * C)) (nI m) (nI i) (nI j) (mjW0 s) = L_308_160 R k1 k2 n 97 (nI (49 * C)) (nI m) (nI i) (nI (j + 1)) (mjW0 z) → ∃ s', L_308_160 R k1 k2 (n + 1) 97 (nI (49 * C)) (nI m) (nI i) (nI j) (mjW0 s) = k2 97 (nI (49 * C)) (nI m) (nI (i + 1)) (mjW0 s') ∧ oW C s s' ∧ MX C s' (wmm w m i 7) := by
      intro z oz hz pz
      obtain ⟨s', a1, a2, a3⟩ := lq_308j R hC (k1 := k1) (k2 := k2) hm hi r (j + 1) n z (by omega) (by omega) hz
      exact ⟨s', pz.trans a1, oz.tr a2, a3⟩
    have ix : ∀ a c : Nat, nI (49 * C) + (7 : Int32) * nI a + nI c = nI (49 * C + 7 * a + c) := fun a c => by rw [show (7 : Int32) = nI 7 from rfl, nI_mul, nI_ad, nI_ad]
    cases c1 : clo w m i m with
    | false =>
      refine go s offG.rf (keep (by rw [c1]; rfl)) ?_
      rw [L308_160]
      unfold b_308_160 b_308_217
      rw [if_neg (show ¬ (7 : Int32) ≤ nI j from nI_ge (b := 7) (by omega) (by decide)), xg_97_30, ix, wa_119 (by omega), r1, c1, if_pos (show b2 false = 0 from rfl), nI_1]
    | true =>
      cases c2 : clo w m m j with
      | false =>
        refine go s offG.rf (keep (by rw [c1, c2]; rfl)) ?_
        rw [L308_160]
        unfold b_308_160 b_308_217
        rw [if_neg (show ¬ (7 : Int32) ≤ nI j from nI_ge (b := 7) (by omega) (by decide)), xg_97_30, ix, wa_119 (by omega), r1, c1, if_neg (show ¬ b2 true = 0 by decide), xg_97_30, ix, wa_119 (by omega), r2, c2, if_pos (show b2 false = 0 from rfl), nI_1]
      | true =>
        refine go (uI s 119 (upd (s.1 119) (49 * C + 7 * i + j) 1)) (offG.w ⟨rfl, by omega, by omega⟩) ?_ ?_
        · refine (h.st hi (show j < 7 by omega)).cg (fun x y hx hy => ?_)
          unfold wmm
          try dsimp only
          by_cases e1 : x = i ∧ y = j
          · rw [e1.1, e1.2, decide_eq_true rfl, decide_eq_true rfl, if_neg (show ¬ (i < i ∨ (i = i ∧ j < j)) by omega), if_pos (show i < i ∨ (i = i ∧ j < j + 1) by omega)]
            show _ = (clo w m i j || (clo w m i m && clo w m m j))
            rw [c1, c2]
          · have ef : (decide (x = i) && decide (y = j)) = false := by
              rw [Bool.and_eq_false_iff]
              by_cases e2 : x = i
              · exact Or.inr (decide_eq_false (fun e3 => e1 ⟨e2, e3⟩))
              · exact Or.inl (decide_eq_false e2)
            rw [ef, Bool.or_false]
            by_cases g : x < i ∨ (x = i ∧ y < j)
            · rw [if_pos g, if_pos (by omega)]
            · rw [if_neg g, if_neg (by omega)]
        · rw [L308_160]
          unfold b_308_160 b_308_217
          rw [if_neg (show ¬ (7 : Int32) ≤ nI j from nI_ge (b := 7) (by omega) (by decide)), xg_97_30, ix, wa_119 (by omega), r1, c1, if_neg (show ¬ b2 true = 0 by decide), xg_97_30, ix, wa_119 (by omega), r2, c2, if_neg (show ¬ b2 true = 0 by decide), xg_97_30, ix, ws_119 (by omega), nar1b, nI_1]
theorem lq_308i (R : mjR) (hC : C < 32) {k1 : Nat → Int32 → Int32 → mjH → mjU} {m : Nat} (hm : m < 7) : ∀ (r i n : Nat) (s : mjSt3), i + r = 7 → r < n → MX C s (wmm w m i 0) → ∃ s', L_308_150 R k1 n 97 (nI (49 * C)) (nI m) (nI i) (mjW0 s) = k1 97 (nI (49 * C)) (nI (m + 1)) (mjW0 s') ∧ oW C s s' ∧ MX C s' (clo w (m + 1))
  | r, i, 0, s, e, hr, h => by omega
  | 0, i, n + 1, s, e, hr, h => by
    refine ⟨s, ?_, offG.rf, h.cg (fun x y hx hy => ?_)⟩
    · rw [L308_150]
      unfold b_308_150
      rw [if_pos (show (7 : Int32) ≤ nI i from nI_le (a := 7) (show 7 ≤ i by omega) (by omega)), nI_1]
    · unfold wmm
      rw [if_pos (by omega)]
  | r + 1, i, n + 1, s, e, hr, h => by
    obtain ⟨s1, a1, a2, a3⟩ := lq_308j R hC (k1 := k1) (k2 := L_308_150 R k1 n) hm (show i < 7 by omega) 7 0 mjN s (by omega) (by have := mjN_v; omega) h
    obtain ⟨s', b1, b2', b3⟩ := lq_308i R hC (k1 := k1) hm r (i + 1) n s1 (by omega) (by omega) (a3.cg (fun x y hx hy => by
      unfold wmm
      by_cases g : x < i ∨ (x = i ∧ y < 7)
      · rw [if_pos g, if_pos (by omega)]
      · rw [if_neg g, if_neg (by omega)]))
    refine ⟨s', ?_, a2.tr b2', b3⟩
    rw [← b1, ← a1, L308_150]
    unfold b_308_150
    rw [if_neg (show ¬ (7 : Int32) ≤ nI i from nI_ge (b := 7) (by omega) (by decide))]
    rfl
theorem lq_308m (R : mjR) (hC : C < 32) : ∀ (r m n : Nat) (s : mjSt3), m + r = 7 → r < n → MX C s (clo w m) → ∃ s', L_308_141 R n 97 (nI (49 * C)) (nI m) (mjW0 s) = some (none, mjW0 s') ∧ oW C s s' ∧ MX C s' (clo w 7)
  | r, m, 0, s, e, hr, h => by omega
  | 0, m, n + 1, s, e, hr, h => by
    refine ⟨s, ?_, offG.rf, by rw [show 7 = m by omega]; exact h⟩
    rw [L308_141]
    unfold b_308_141
    rw [if_pos (show (7 : Int32) ≤ nI m from nI_le (a := 7) (show 7 ≤ m by omega) (by omega))]
  | r + 1, m, n + 1, s, e, hr, h => by
    obtain ⟨s1, a1, a2, a3⟩ := lq_308i R hC (k1 := L_308_141 R n) (show m < 7 by omega) 7 0 mjN s (by omega) (by have := mjN_v; omega) (h.cg (fun x y hx hy => by
      unfold wmm
      rw [if_neg (by omega)]))
    obtain ⟨s', b1, b2', b3⟩ := lq_308m R hC r (m + 1) n s1 (by omega) (by omega) a3
    refine ⟨s', ?_, a2.tr b2', b3⟩
    rw [← b1, ← a1, L308_141]
    unfold b_308_141
    rw [if_neg (show ¬ (7 : Int32) ≤ nI m from nI_ge (b := 7) (by omega) (by decide))]
    rfl
end MJA71
end
section
/-! ===== the reference's judge: knows, own NAMES ===== -/
section MJA72
variable {T : TT} {d N b c n C : Nat} {ks : List Nat} {L : List CD} {s s' : mjSt3}
/-- knows: the table of CLASS c -/
theorem x_308 (J : RJ T N b ks L s) (hc : c < L.length) (I : ∀ i, i < inL L c → s.1 117 (8 * (16 * b + c) + i) = nI (ipT T L c i).1 ∧ s.1 118 (8 * (16 * b + c) + i) = nI (ipT T L c i).2) : ∃ s', mjF (d + 1) 308 [.ref 97, .int (nI (16 * b + c))] (mjW0 s) = some (none, mjW0 s') ∧ oW (16 * b + c) s s' ∧ ∀ a, a < 7 → ∀ e, e < 7 → s'.1 119 (49 * (16 * b + c) + 7 * rwR a + rwR e) = b2 (knT T L c a e) := by
  have hb := J.b1
  have h16 := J.len
  have hn := J.2.2.2.2.2.1
  have H := J.hd hc
  have n5 : nmL L c ≤ 5 := H.2.2.2.2.2.2.2.1
  have i8 : inL L c ≤ 8 := H.2.2.2.2.2.2.2.2
  have hC : 16 * b + c < 32 := by omega
  have ipl : ∀ x, (ipT T L c x).1 < 5 ∧ (ipT T L c x).2 < 5 := fun x => by have := ip_lt hn hc x; omega
  obtain ⟨s1, m1, a1, a2, a3⟩ := lq_308a (mjF d) hC 49 0 mjN s (by omega) (by have := mjN_v; omega) (fun x hx => by omega)
  have M1 : MX (16 * b + c) s1 (fun i j => decide (i = j) || decide (j = 6)) := fun i hi j hj => by
    have := a3 (7 * i + j) (by omega)
    rw [show 49 * (16 * b + c) + (7 * i + j) = 49 * (16 * b + c) + 7 * i + j by omega, show (7 * i + j) / 7 = i by omega, show (7 * i + j) % 7 = j by omega] at this
    exact this
  have M2 := M1.st (x := 5) (y := 0) (by omega) (by omega)
  obtain ⟨s2, h2⟩ : ∃ z, z = uI s1 119 (upd (s1.1 119) (49 * (16 * b + c) + 7 * 5 + 0) 1) := ⟨_, rfl⟩
  rw [← h2] at M2
  have o2 : oW (16 * b + c) s s2 := a2.tr (by rw [h2]; exact offG.w ⟨rfl, by omega, by omega⟩)
  have r2 : ∀ x, ¬ x = 119 → s2.1 x = s.1 x := fun x hx => funext fun j => o2.1 x j (fun e => hx e.1)
  obtain ⟨s3, b1, b2', b3⟩ := lq_308b (w := fun i j => (decide (i = j) || decide (j = 6)) || (decide (i = 5) && decide (j = 0))) (mjF d) hC n5 (nmL L c) 0 mjN s2 (by omega) (by have := mjN_v; omega) (by rw [r2 104 (by decide)]; exact H.2.2.1.1) (M2.cg (fun i j _ _ => by simp))
  have o3 : oW (16 * b + c) s s3 := o2.tr b2'
  have r3 : ∀ x, ¬ x = 119 → s3.1 x = s.1 x := fun x hx => funext fun j => o3.1 x j (fun e => hx e.1)
  obtain ⟨s4, c1, c2, c3⟩ := lq_308c (w := fun i j => (decide (i = j) || decide (j = 6)) || (decide (i = 5) && decide (j = 0)) || (decide (i = 0) && decide (j < nmL L c))) (mjF d) hC (iN := inL L c) (ip := ipT T L c) i8 (fun x _ => by have := ipl x; omega) (inL L c) 0 mjN s3 (by omega) (by have := mjN_v; omega) (by rw [r3 106 (by decide)]; exact H.2.2.2.2.2.1.1) (fun x hx => by rw [r3 117 (by decide), r3 118 (by decide)]; exact I x hx) (b3.cg (fun i j _ _ => (Bool.or_false _).symm))
  obtain ⟨s5, d1, d2, d3⟩ := lq_308m (mjF d) hC 7 0 mjN s4 (by omega) (by have := mjN_v; omega) (w := fun i j => (decide (i = j) || decide (j = 6)) || (decide (i = 5) && decide (j = 0)) || (decide (i = 0) && decide (j < nmL L c)) || anyB (fun x => decide (ipT T L c x = (i, j))) (inL L c)) c3
  refine ⟨s5, ?_, o3.tr (c2.tr d2), fun a ha e he => ?_⟩
  · rw [e_308]
    unfold f_308 b_308_0
    rw [show (49 : Int32) * nI (16 * b + c) = nI (49 * (16 * b + c)) by rw [show (49 : Int32) = nI 49 from rfl, nI_mul], show (0 : Int32) = nI 0 from rfl, a1]
    unfold b_308_7
    rw [if_pos (show (49 : Int32) ≤ nI 49 from Int32.le_refl _), xg_97_30, show nI (49 * (16 * b + c)) + 35 = nI (49 * (16 * b + c) + 7 * 5 + 0) by rw [show (35 : Int32) = nI 35 from rfl, nI_ad], ws_119 (by omega), nar1b, ← h2, show (0 : Int32) = nI 0 from rfl, b1]
    exact c1.trans d1
  · rw [d3 (rwR a) (rwR_lt ha) (rwR e) (rwR_lt he)]
    unfold knT
    rw [clo_rw (w := kn0 (nmL L c) (inL L c) (ipT T L c)) (fun x y hx hy => ?_) ha he]
    have rx := rwR_lt hx
    have t1 : ∀ x, x < 7 → ∀ y, y < 7 → decide (rwR x = rwR y) = decide (x = y) := by decide
    have t2 : ∀ y, y < 7 → decide (rwR y = 6) = decide (y = 5) := by decide
    have t3 : ∀ x, x < 7 → decide (rwR x = 5) = decide (x = 6) := by decide
    have t4 : ∀ x, x < 7 → decide (rwR x = 0) = decide (x = 0) := by decide
    have t5 : ∀ m, m < 6 → ∀ y, y < 7 → decide (rwR y < m) = decide (y < m) := by decide
    have t6 : ∀ z, z < 5 → ∀ x, x < 7 → decide (z = rwR x) = decide (z = x) := by decide
    have t7 : ∀ j, decide (ipT T L c j = (rwR x, rwR y)) = decide (ipT T L c j = (x, y)) := by
      intro j
      have i1 := t6 _ (ipl j).1 x hx
      have i2 := t6 _ (ipl j).2 y hy
      rw [decide_eq_decide] at i1 i2 ⊢
      constructor
      · intro h
        have h1 := congrArg Prod.fst h
        have h2 := congrArg Prod.snd h
        exact Prod.ext (i1.mp h1) (i2.mp h2)
      · intro h
        have h1 := congrArg Prod.fst h
        have h2 := congrArg Prod.snd h
        exact Prod.ext (i1.mpr h1) (i2.mpr h2)
    unfold kn0
    try dsimp only
    rw [t1 x hx y hy, t2 y hy, t3 x hx, t4 y hy, t4 x hx, t5 (nmL L c) (by omega) y hy, funext t7]
/-- the loop over earlier CLASSES: two of one name -/
theorem L300_2 (R : mjR) (n a : Nat) (b e : Int32) (hp : mjH) : L_300_2 R (n + 1) a b e hp = b_300_2 R (L_300_2 R n) a b e hp := rfl
theorem L300_42 (R : mjR) (n a : Nat) (b e : Int32) (hp : mjH) : L_300_42 R (n + 1) a b e hp = b_300_42 R (L_300_42 R n) a b e hp := rfl
theorem L300_55 (R : mjR) (k : Nat → Int32 → Int32 → mjH → mjU) (n a : Nat) (b e f : Int32) (hp : mjH) : L_300_55 R k (n + 1) a b e f hp = b_300_55 R k (L_300_55 R k n) a b e f hp := rfl
theorem o61.GRo {P : Prop} (g : GR s) (o : o61 s s') (b : bR0 s') : (gR0 s' ↔ gR0 s ∧ P ∧ False) := ⟨fun x => absurd x b.ng, fun x => x.2.2.elim⟩
theorem lq_300c (hc : c < L.length) {i : Nat} (hi : i < nmL L c) {k42 : Nat → Int32 → Int32 → mjH → mjU} : ∀ (r j m : Nat) (s : mjSt3), j + r = i → r < m → RJ T N b ks L s → GR s → ∃ s', L_300_55 (mjF (d + 1)) k42 m 97 (nI (16 * b + c)) (nI i) (nI j) (mjW0 s) = k42 97 (nI (16 * b + c)) (nI (i + 1)) (mjW0 s') ∧ o61 s s' ∧ GR s' ∧ (gR0 s' ↔ gR0 s ∧ ∀ x, j ≤ x → x < i → ¬ kyT T ((hC L c).1 + 2 + 2 * x) = kyT T ((hC L c).1 + 2 + 2 * i))
  | r, j, 0, s, e, hr, J, g => by omega
  | 0, j, m + 1, s, e, hr, J, g => by
    refine ⟨s, ?_, offG.rf, g, ⟨fun x => ⟨x, fun y h1 h2 => by omega⟩, fun x => x.1⟩⟩
    rw [L300_55]
    unfold b_300_55
    rw [if_pos (show nI i ≤ nI j by rw [show i = j by omega]; exact Int32.le_refl _), nI_1]
  | r + 1, j, m + 1, s, e, hr, J, g => by
    have hb := J.b1
    have h16 := J.len
    have H := J.hd hc
    have n5 : nmL L c ≤ 5 := H.2.2.2.2.2.2.2.1
    have v1 : s.2.1 111 (5 * (16 * b + c) + i) = kyT T ((hC L c).1 + 2 + 2 * i) := (H.2.2.1.2 i hi).1
    have v2 : s.2.1 111 (5 * (16 * b + c) + j) = kyT T ((hC L c).1 + 2 + 2 * j) := (H.2.2.1.2 j (show j < (hC L c).2.1 by unfold nmL at hi; omega)).1
    rw [L300_55]
    unfold b_300_55 b_300_101
    rw [if_neg (show ¬ nI i ≤ nI j from nI_ge (by omega) (by omega)), xg_97_22, i5m, wa_111 (by omega), v1, xg_97_22, i5m, wa_111 (by omega), v2, nI_1]
    by_cases q : kyT T ((hC L c).1 + 2 + 2 * i) = kyT T ((hC L c).1 + 2 + 2 * j)
    · rw [if_pos ((lg_cmp_eq _ _).mpr q), xg_97_23, wa_112 (by omega), xV_97]
      obtain ⟨z, a1, a2, a3⟩ := x_268 (d := d) g (a := 4) (by decide) (s.1 112 (5 * (16 * b + c) + i))
      rw [a1, bN_s]
      obtain ⟨s', b1, b2', b3, b4⟩ := lq_300c hc hi (k42 := k42) r (j + 1) m z (by omega) (by omega) (o61.J a2 J) (Or.inr a3)
      exact ⟨s', b1, a2.tr b2', b3, ⟨fun x => absurd (b4.mp x).1 a3.ng, fun x => absurd q.symm (x.2 j (Nat.le_refl _) (by omega))⟩⟩
    · rw [if_neg (fun x => q ((lg_cmp_eq _ _).mp x))]
      obtain ⟨s', b1, b2', b3, b4⟩ := lq_300c hc hi (k42 := k42) r (j + 1) m s (by omega) (by omega) J g
      refine ⟨s', b1, b2', b3, b4.trans ⟨fun x => ⟨x.1, fun y h1 h2 => ?_⟩, fun x => ⟨x.1, fun y h1 h2 => x.2 y (by omega) h2⟩⟩⟩
      by_cases e' : y = j
      · rw [e']; exact fun z => q z.symm
      · exact x.2 y (by omega) h2
theorem lq_300b (hc : c < L.length) : ∀ (r i m : Nat) (s : mjSt3), i + r = nmL L c → r < m → RJ T N b ks L s → GR s → ∃ s', L_300_42 (mjF (d + 1)) m 97 (nI (16 * b + c)) (nI i) (mjW0 s) = some (none, mjW0 s') ∧ o61 s s' ∧ GR s' ∧ (gR0 s' ↔ gR0 s ∧ ∀ a, i ≤ a → a < nmL L c → ∀ x, x < a → ¬ kyT T ((hC L c).1 + 2 + 2 * x) = kyT T ((hC L c).1 + 2 + 2 * a))
  | r, i, 0, s, e, hr, J, g => by omega
  | 0, i, m + 1, s, e, hr, J, g => by
    have hb := J.b1
    have h16 := J.len
    have H := J.hd hc
    have n5 : nmL L c ≤ 5 := H.2.2.2.2.2.2.2.1
    refine ⟨s, ?_, offG.rf, g, ⟨fun x => ⟨x, fun y h1 h2 => by omega⟩, fun x => x.1⟩⟩
    rw [L300_42]
    unfold b_300_42
    rw [xg_97_15, wa_104 (by omega), show s.1 104 (16 * b + c) = nI (nmL L c) from H.2.2.1.1, if_pos (nI_le (by omega) (by omega))]
  | r + 1, i, m + 1, s, e, hr, J, g => by
    have hb := J.b1
    have h16 := J.len
    have H := J.hd hc
    have n5 : nmL L c ≤ 5 := H.2.2.2.2.2.2.2.1
    obtain ⟨s1, a1, a2, a3, a4⟩ := lq_300c (d := d) hc (show i < nmL L c by omega) (k42 := L_300_42 (mjF (d + 1)) m) i 0 mjN s (by omega) (by have := mjN_v; omega) J g
    obtain ⟨s', b1, b2', b3, b4⟩ := lq_300b hc r (i + 1) m s1 (by omega) (by omega) (o61.J a2 J) a3
    refine ⟨s', ?_, a2.tr b2', b3, ?_⟩
    · rw [← b1, ← a1, L300_42]
      unfold b_300_42
      rw [xg_97_15, wa_104 (by omega), show s.1 104 (16 * b + c) = nI (nmL L c) from H.2.2.1.1, if_neg (nI_ge (by omega) (by omega))]
      rfl
    · rw [b4, a4]
      constructor
      · intro ⟨⟨x1, x2⟩, x3⟩
        refine ⟨x1, fun a h1 h2 x hx => ?_⟩
        by_cases e' : a = i
        · subst e'; exact x2 x (Nat.zero_le _) hx
        · exact x3 a (by omega) h2 x hx
      · intro ⟨x1, x2⟩
        exact ⟨⟨x1, fun x _ hx => x2 i (Nat.le_refl _) (by omega) x hx⟩, fun a h1 h2 x hx => x2 a (by omega) h2 x hx⟩
theorem lq_300a (hc : c < L.length) : ∀ (r j m : Nat) (s : mjSt3), j + r = c → r < m → RJ T N b ks L s → GR s → ∃ s', L_300_2 (mjF (d + 1)) m 97 (nI (16 * b + c)) (nI (16 * b + j)) (mjW0 s) = some (none, mjW0 s') ∧ o61 s s' ∧ GR s' ∧ (gR0 s' ↔ gR0 s ∧ (∀ x, j ≤ x → x < c → ¬ kyT T (hC L x).1 = kyT T (hC L c).1) ∧ ∀ a, a < nmL L c → ∀ x, x < a → ¬ kyT T ((hC L c).1 + 2 + 2 * x) = kyT T ((hC L c).1 + 2 + 2 * a))
  | r, j, 0, s, e, hr, J, g => by omega
  | 0, j, m + 1, s, e, hr, J, g => by
    have h16 := J.len
    have n5 : nmL L c ≤ 5 := (J.hd hc).2.2.2.2.2.2.2.1
    obtain ⟨s', b1, b2', b3, b4⟩ := lq_300b (d := d) hc (nmL L c) 0 mjN s (by omega) (by have := mjN_v; omega) J g
    refine ⟨s', ?_, b2', b3, b4.trans ⟨fun x => ⟨x.1, fun y h1 h2 => by omega, fun a ha => x.2 a (Nat.zero_le _) ha⟩, fun x => ⟨x.1, fun a _ ha => x.2.2 a ha⟩⟩⟩
    rw [← b1, L300_2]
    unfold b_300_2
    rw [if_pos (show nI (16 * b + c) ≤ nI (16 * b + j) by rw [show c = j by omega]; exact Int32.le_refl _)]
    rfl
  | r + 1, j, m + 1, s, e, hr, J, g => by
    have hb := J.b1
    have h16 := J.len
    have v1 : s.2.1 101 (16 * b + j) = kyT T (hC L j).1 := (J.hd (show j < L.length by omega)).1
    have v2 : s.2.1 101 (16 * b + c) = kyT T (hC L c).1 := (J.hd hc).1
    rw [L300_2]
    unfold b_300_2 b_300_34
    rw [if_neg (show ¬ nI (16 * b + c) ≤ nI (16 * b + j) from nI_ge (by omega) (by omega)), xg_97_12, wa_101 (by omega), v1, xg_97_12, wa_101 (by omega), v2, nI_1, show 16 * b + j + 1 = 16 * b + (j + 1) by omega]
    by_cases q : kyT T (hC L j).1 = kyT T (hC L c).1
    · rw [if_pos ((lg_cmp_eq _ _).mpr q), xg_97_13, wa_102 (by omega), xV_97]
      obtain ⟨z, a1, a2, a3⟩ := x_268 (d := d) g (a := 4) (by decide) (s.1 102 (16 * b + c))
      rw [a1, bN_s]
      obtain ⟨s', b1, b2', b3, b4⟩ := lq_300a hc r (j + 1) m z (by omega) (by omega) (o61.J a2 J) (Or.inr a3)
      exact ⟨s', b1, a2.tr b2', b3, ⟨fun x => absurd (b4.mp x).1 a3.ng, fun x => absurd q (x.2.1 j (Nat.le_refl _) (by omega))⟩⟩
    · rw [if_neg (fun x => q ((lg_cmp_eq _ _).mp x))]
      obtain ⟨s', b1, b2', b3, b4⟩ := lq_300a hc r (j + 1) m s (by omega) (by omega) J g
      refine ⟨s', b1, b2', b3, b4.trans ⟨fun x => ⟨x.1, fun y h1 h2 => ?_, x.2.2⟩, fun x => ⟨x.1, fun y h1 h2 => x.2.1 y (by omega) h2, x.2.2⟩⟩⟩
      by_cases e' : y = j
      · rw [e']; exact q
      · exact x.2.1 y (by omega) h2
/-- judgeOwnNames -/
theorem x_300 (J : RJ T N b ks L s) (hc : c < L.length) (g : GR s) : ∃ s', mjF (d + 2) 300 [.ref 97, .int (nI (16 * b + c)), .int (nI (16 * b))] (mjW0 s) = some (none, mjW0 s') ∧ o61 s s' ∧ GR s' ∧ (gR0 s' ↔ gR0 s ∧ OKa T L c) := by
  have h16 := J.len
  obtain ⟨s', b1, b2', b3, b4⟩ := lq_300a (d := d) hc c 0 mjN s (by omega) (by have := mjN_v; omega) J g
  refine ⟨s', ?_, b2', b3, b4.trans ⟨fun x => ⟨x.1, fun y hy => x.2.1 y (Nat.zero_le _) hy, x.2.2⟩, fun x => ⟨x.1, fun y _ hy => x.2.1 y hy, x.2.2⟩⟩⟩
  rw [e_300]
  unfold f_300 b_300_0
  exact b1
end MJA72
end
section
/-! ===== where the KINDS stand: no two in one place ===== -/
section MJA73
variable {T : TT} {N k0 kb : Nat} {t : PT} {rs : List RcM} {z : PB}
theorem CCh.le : ∀ {l : List (HD × List RcM)} {p p' : Nat}, CCh p l p' → p ≤ p'
  | [], _, _, h => h
  | E :: l, p, p', ⟨q, e, h1, h2, h3, h4, h5, h6⟩ => by
    have := CCh.le h6
    omega
/-- a head stands in its place -/
theorem CCh.hd : ∀ {l : List (HD × List RcM)} {p p' c : Nat} {E : HD × List RcM}, CCh p l p' → l[c]? = some E → p ≤ E.1.1 ∧ E.1.1 < p' ∧ (¬ E.1.2.2.1 = 0 → E.1.1 < E.1.2.2.1 ∧ E.1.2.2.1 < p')
  | [], _, _, _, _, _, h => by cases h
  | F :: l, p, p', 0, E, ⟨q, e, h1, h2, h3, h4, h5, h6⟩, h => by
    cases h
    have := CCh.le h6
    exact ⟨h1, by omega, fun x => by have := h3 x; omega⟩
  | F :: l, p, p', c + 1, E, ⟨q, e, h1, h2, h3, h4, h5, h6⟩, h => by
    have h' : l[c]? = some E := h
    obtain ⟨a, b, d⟩ := CCh.hd h6 h'
    exact ⟨by omega, b, d⟩
theorem CCh.rec' : ∀ {l : List (HD × List RcM)} {p p' : Nat} {r : RcM}, CCh p l p' → r ∈ l.flatMap (fun E => E.2) → p ≤ r.1.1 ∧ r.2.1 ≤ p'
  | [], _, _, _, _, h => by cases h
  | F :: l, p, p', r, ⟨q, e, h1, h2, h3, h4, h5, h6⟩, h => by
    rw [List.flatMap_cons] at h
    rcases List.mem_append.mp h with k | k
    · have := h4 r k
      have := CCh.le h6
      omega
    · have := CCh.rec' h6 k
      omega
/-- two heads -/
theorem CCh.hh : ∀ {l : List (HD × List RcM)} {p p' c c' : Nat} {E E' : HD × List RcM}, CCh p l p' → l[c]? = some E → l[c']? = some E' → c < c' → E.1.2.2.1 < E'.1.1
  | [], _, _, _, _, _, _, _, h, _, _ => by cases h
  | F :: l, p, p', c, 0, E, E', _, _, _, h => by omega
  | F :: l, p, p', 0, c' + 1, E, E', ⟨q, e, h1, h2, h3, h4, h5, h6⟩, h, h', _ => by
    cases h
    have h'' : l[c']? = some E' := h'
    obtain ⟨a, b, d⟩ := CCh.hd h6 h''
    by_cases z : F.1.2.2.1 = 0
    · omega
    · have := h3 z
      omega
  | F :: l, p, p', c + 1, c' + 1, E, E', ⟨q, e, h1, h2, h3, h4, h5, h6⟩, h, h', g => by
    have k : l[c]? = some E := h
    have k' : l[c']? = some E' := h'
    exact CCh.hh h6 k k' (by omega)
/-- a head's KIND stands in no MEMBER -/
theorem CCh.hr : ∀ {l : List (HD × List RcM)} {p p' c : Nat} {E : HD × List RcM} {r : RcM}, CCh p l p' → l[c]? = some E → r ∈ l.flatMap (fun E => E.2) → ¬ E.1.2.2.1 = 0 → ¬ (r.1.1 ≤ E.1.2.2.1 ∧ E.1.2.2.1 < r.2.1)
  | [], _, _, _, _, _, _, h, _, _ => by cases h
  | F :: l, p, p', 0, E, r, ⟨q, e, h1, h2, h3, h4, h5, h6⟩, h, hr, z => by
    cases h
    have a := h3 z
    rw [List.flatMap_cons] at hr
    rcases List.mem_append.mp hr with k | k
    · have := h4 r k; omega
    · have := CCh.rec' h6 k; omega
  | F :: l, p, p', c + 1, E, r, ⟨q, e, h1, h2, h3, h4, h5, h6⟩, h, hr, z => by
    have h' : l[c]? = some E := h
    rw [List.flatMap_cons] at hr
    rcases List.mem_append.mp hr with k | k
    · have := h4 r k
      obtain ⟨a, b, d⟩ := CCh.hd h6 h'
      have := d z
      omega
    · exact CCh.hr h6 h' k z
/-- the KIND behind is -/
def abK (t : PT) (c : Nat) : Nat := (hC t.1 c).2.2.1
theorem TRx.at (X : TRx t rs) {c : Nat} (hc : c < t.1.length) : ∃ (ll : List (HD × List RcM)) (E : HD × List RcM), ll[c]? = some E ∧ E.1 = hC t.1 c ∧ CCh 0 ll (t.2.1.1 - 1) ∧ rs = ll.flatMap (fun E => E.2) ∧ t.1 = ll.map (fun E => (E.1, E.2.map (fun r => r.1))) := by
  obtain ⟨ll, h1, h2, h3⟩ := X
  have hl : c < ll.length := by
    rw [h1, List.length_map] at hc
    exact hc
  refine ⟨ll, ll[c], List.getElem?_eq_getElem hl, ?_, h3, h2, h1⟩
  unfold hC
  rw [h1, List.getElem?_map, List.getElem?_eq_getElem hl]
  rfl
theorem TRx.hh (X : TRx t rs) {c c' : Nat} (hc : c < t.1.length) (hc' : c' < t.1.length) (h : ¬ c = c') (z : ¬ abK t c = 0) (z' : ¬ abK t c' = 0) : ¬ abK t c = abK t c' := by
  obtain ⟨ll, E, a1, a2, a3, a4, a5⟩ := X.at hc
  have hl : c' < ll.length := by
    rw [a5, List.length_map] at hc'
    exact hc'
  obtain ⟨E', b1⟩ : ∃ E', ll[c']? = some E' := ⟨_, List.getElem?_eq_getElem hl⟩
  have b2 : E'.1 = hC t.1 c' := by
    unfold hC
    rw [a5, List.getElem?_map, b1]
    rfl
  unfold abK at z z' ⊢
  rw [← a2] at z ⊢
  rw [← b2] at z' ⊢
  by_cases g : c < c'
  · have k1 := a3.hh a1 b1 g
    have k2 := (a3.hd b1).2.2 z'
    omega
  · have k1 := a3.hh b1 a1 (by omega)
    have k2 := (a3.hd a1).2.2 z
    omega
theorem TRx.hr (X : TRx t rs) {c m : Nat} {r : RcM} (hc : c < t.1.length) (z : ¬ abK t c = 0) (hr : rs[m]? = some r) : ¬ (r.1.1 ≤ abK t c ∧ abK t c < r.2.1) := by
  obtain ⟨ll, E, a1, a2, a3, a4, a5⟩ := X.at hc
  unfold abK at z ⊢
  rw [← a2] at z ⊢
  exact a3.hr a1 (by rw [← a4]; exact List.mem_of_getElem? hr) z
theorem TRx.lt (X : TRx t rs) (h1 : 1 ≤ t.2.1.1) {c : Nat} (hc : c < t.1.length) (z : ¬ abK t c = 0) : abK t c < t.2.1.1 := by
  obtain ⟨ll, E, a1, a2, a3, a4, a5⟩ := X.at hc
  unfold abK at z ⊢
  rw [← a2] at z ⊢
  have := (a3.hd a1).2.2 z
  omega
end MJA73
end
section
/-! ===== the reference's judge: phases over the CLASSES; above; rings; INS ===== -/
/-- one round of a phase -/
noncomputable def PhB (nx : Nat → Int32 → Int32 → mjH → mjU) (call : Int32 → Int32 → mjH → mjU) (self : Nat → Int32 → Int32 → Int32 → mjH → mjU) (l0 : Nat) (l1 l2 l3 : Int32) (hp : mjH) : mjU := (if (l1 + l2) ≤ l3 then nx l0 l1 l2 hp else gI hp l0 12 61 (fun v1 => (if v1 = 0 then rV hp l0 12 (bN (call l1 l3 hp) (fun hp2 => self l0 l1 l2 (l3 + (1 : Int32)) hp2)) else nx l0 l1 l2 hp)))
theorem phase {b n : Nat} (hb : b ≤ 1) (hn : n ≤ 16) {Lp : Nat → Nat → Int32 → Int32 → Int32 → mjH → mjU} {nx : Nat → Int32 → Int32 → mjH → mjU} {call : Int32 → Int32 → mjH → mjU} (hS : ∀ m x y z hp, Lp (m + 1) 97 x y z hp = PhB nx call (Lp m) 97 x y z hp) {Q : Nat → mjSt3 → Prop} {St : mjSt3 → Prop} {OK : Nat → Prop} {Fr : mjSt3 → mjSt3 → Prop} (frf : ∀ s, Fr s s) (ftr : ∀ a b c, Fr a b → Fr b c → Fr a c) (step : ∀ c s, c < n → St s → gR0 s → Q c s → ∃ s', call (nI (16 * b)) (nI (16 * b + c)) (mjW0 s) = some (none, mjW0 s') ∧ St s' ∧ GR s' ∧ (gR0 s' ↔ OK c) ∧ (gR0 s' → Q (c + 1) s') ∧ Fr s s') : ∀ (r c m : Nat) (s : mjSt3), c + r = n → r < m → St s → GR s → (gR0 s → Q c s) → ∃ s', Lp m 97 (nI (16 * b)) (nI n) (nI (16 * b + c)) (mjW0 s) = nx 97 (nI (16 * b)) (nI n) (mjW0 s') ∧ St s' ∧ GR s' ∧ (gR0 s' ↔ gR0 s ∧ ∀ x, c ≤ x → x < n → OK x) ∧ (gR0 s' → Q n s') ∧ Fr s s'
  | r, c, 0, s, e, hr, S, g, q => by omega
  | 0, c, m + 1, s, e, hr, S, g, q => by
    refine ⟨s, ?_, S, g, ⟨fun x => ⟨x, fun y h1 h2 => by omega⟩, fun x => x.1⟩, fun x => by rw [show n = c by omega]; exact q x, frf s⟩
    rw [hS]
    unfold PhB
    rw [nI_ad, if_pos (nI_le (by omega) (by omega))]
  | r + 1, c, m + 1, s, e, hr, S, g, q => by
    by_cases g0 : s.1 97 61 = 0
    · obtain ⟨z, a1, a2, a3, a4, a5, a6⟩ := step c s (by omega) S g0 (q g0)
      obtain ⟨s', b1, b2, b3, b4, b5, b6⟩ := phase hb hn hS frf ftr step r (c + 1) m z (by omega) (by omega) a2 a3 a5
      refine ⟨s', ?_, b2, b3, ?_, b5, ftr _ _ _ a6 b6⟩
      · rw [← b1, hS]
        unfold PhB
        rw [nI_ad, if_neg (nI_ge (by omega) (by omega)), xg_97_61, if_pos g0, xV_97, a1, bN_s, nI_1, show 16 * b + c + 1 = 16 * b + (c + 1) by omega]
      · rw [b4, a4]
        constructor
        · intro ⟨x1, x2⟩
          refine ⟨g0, fun x h1 h2 => ?_⟩
          by_cases e' : x = c
          · rw [e']; exact x1
          · exact x2 x (by omega) h2
        · intro ⟨_, x2⟩
          exact ⟨x2 c (Nat.le_refl _) (by omega), fun x h1 h2 => x2 x (by omega) h2⟩
    · refine ⟨s, ?_, S, g, ⟨fun x => absurd x g0, fun x => absurd x.1 g0⟩, fun x => absurd x g0, frf s⟩
      rw [hS]
      unfold PhB
      rw [nI_ad, if_neg (nI_ge (by omega) (by omega)), xg_97_61, if_neg g0]
/-- the KIND behind is, as the reference has it -/
def ABr (T : TT) (L : List CD) (b : Nat) (s : mjSt3) (c : Nat) : Prop := match abT T L c with
  | none => s.1 105 (16 * b + c) = -1
  | some kk => vK L kk ∧ ∃ k, k < 1600 ∧ s.1 105 (16 * b + c) = nI k ∧ s.1 138 k = nI (nmL L (cK kk)) ∧ KRr b s k (nmL L (cK kk)) kk
section MJA74
variable {T : TT} {d N b k t c n kk : Nat} {ks : List Nat} {L : List CD} {s s' : mjSt3} {P : Nat → Prop}
theorem oR_0 {o : Nat} (h : o ≤ 6) : oR o = 0 ↔ o = 0 := oR_inj (e := 0) h (by omega)
/-- judgeAbove -/
theorem x_301 (J : RJ T N b ks L s) (Pi : PFi T N L) (hc : c < L.length) (g : GR s) : ∃ s', mjF (d + 4) 301 [.ref 97, .int (nI (16 * b + c))] (mjW0 s) = some (none, mjW0 s') ∧ oTy (fun x => ∃ i, ks[i]? = some (hC L c).2.2.1 ∧ ¬ (hC L c).2.2.1 = 0 ∧ x = 800 * b + i) s s' ∧ GR s' ∧ (gR0 s' ↔ gR0 s ∧ OKb T L c) ∧ (gR0 s' → ABr T L b s' c) := by
  have hb := J.b1
  have h16 := J.len
  have hn := J.2.2.2.2.2.1
  have H := J.hd hc
  have l750 := J.2.2.2.1
  rw [e_301]
  unfold f_301 b_301_0
  rw [xg_97_16, wa_105 (by omega)]
  by_cases z : (hC L c).2.2.1 = 0
  · rw [(H.2.2.2.1 z).2, if_neg (show ¬ (0 : Int32) ≤ -1 by decide)]
    refine ⟨s, rfl, offG.rf, g, ⟨fun x => ⟨x, fun y => absurd z y⟩, fun x => x.1⟩, fun _ => ?_⟩
    unfold ABr abT
    rw [if_pos z]
    exact (H.2.2.2.1 z).2
  · obtain ⟨_, i, i1, i2⟩ := H.2.2.2.2.1 z
    have hi := (List.getElem?_eq_some_iff.mp i1).1
    have k16 : 800 * b + i < 1600 := by omega
    have KD := (Pi c hc).1 z
    have Kk := J.2.2.1 i _ i1
    have hh : ∀ c', some c = some c' → c' < L.length := fun c' e => by cases e; exact hc
    rw [i2, if_pos (nI_pos' (by omega)), xV_97]
    obtain ⟨s1, e1, o1, g1, j1, r1⟩ := x_302 (d := d) (h := some c) (beh := true) J hh k16 KD Kk g
    rw [show (1 : Int32) = b2 true from rfl, show nI (16 * b + c) = cR b (some c) from rfl, e1, bN_s, xg_97_61]
    have o1' : oTy (fun x => ∃ i, ks[i]? = some (hC L c).2.2.1 ∧ ¬ (hC L c).2.2.1 = 0 ∧ x = 800 * b + i) s s1 := (oNm.Ty o1).mono (fun x hx => ⟨i, i1, z, hx⟩)
    have ob : OKb T L c ↔ ∃ k, kdT T L (some c) true (hC L c).2.2.1 = some k ∧ oK k 0 = 0 := ⟨fun x => x z, fun x _ => x⟩
    by_cases g0 : s1.1 97 61 = 0
    · rw [if_pos g0]
      have jj := j1.mp g0
      cases hk : kdT T L (some c) true (hC L c).2.2.1 with
      | none => exact absurd hk jj.2
      | some kk =>
        obtain ⟨v, cn, _⟩ := kd_vK hn hh hk
        have K := r1 g0 kk hk
        have n1 := vK.n5 hn (vK.cl hn v)
        have vo := vK.ow hn v
        have k0 : s1.1 142 (5 * (800 * b + i)) = oR (oK kk 0) := by
          have := K.2 0 (by omega)
          exact this
        rw [xg_97_53, show (5 : Int32) * nI (800 * b + i) = nI (5 * (800 * b + i)) by rw [show (5 : Int32) = nI 5 from rfl, nI_mul], wa_142 (by omega), k0]
        have AB : ∀ x, (∀ h, ¬ h = 97 → x.1 h = s1.1 h) → ABr T L b x c := by
          intro x hx
          unfold ABr
          rw [show abT T L c = some kk by unfold abT; rw [if_neg z]; exact hk]
          refine ⟨v, 800 * b + i, k16, ?_, ?_, ?_⟩
          · rw [hx 105 (by decide), o1'.r (by decide) (by decide) (by decide)]; exact i2
          · rw [hx 138 (by decide), o1'.r (by decide) (by decide) (by decide), Kk.2.2.2.1, cn]
          · rw [cn] at K
            exact ⟨by rw [hx 139 (by decide)]; exact K.1, fun y hy => by rw [hx 142 (by decide)]; exact K.2 y hy⟩
        by_cases q : oK kk 0 = 0
        · rw [if_pos ((oR_0 (vo 0 (by omega))).mpr q)]
          exact ⟨s1, rfl, o1', g1, ⟨fun x => ⟨(j1.mp x).1, ob.mpr ⟨kk, hk, q⟩⟩, fun x => g0⟩, fun _ => AB s1 (fun _ _ => rfl)⟩
        · rw [if_neg (fun x => q ((oR_0 (vo 0 (by omega))).mp x)), xg_97_14, show cR b (some c) = nI (16 * b + c) from rfl, wa_103 (by omega), xV_97]
          obtain ⟨s2, a1, a2, a3⟩ := x_268 (d := d + 2) g1 (a := 11) (by decide) (s1.1 103 (16 * b + c))
          rw [a1, bN_s]
          refine ⟨s2, rfl, o1'.tr (o61.Ty a2), Or.inr a3, ⟨fun x => absurd x a3.ng, fun x => ?_⟩, fun x => absurd x a3.ng⟩
          obtain ⟨k', q1, q2⟩ := ob.mp x.2
          rw [hk] at q1
          cases q1
          exact absurd q2 q
    · rw [if_neg g0]
      refine ⟨s1, rfl, o1', g1, ⟨fun x => absurd x g0, fun x => ?_⟩, fun x => absurd x g0⟩
      obtain ⟨k', q1, q2⟩ := ob.mp x.2
      exact j1.mpr ⟨x.1, by rw [q1]; exact fun y => by cases y⟩
/-- the CLASS above, as the reference finds it -/
theorem x_242 (hb : b ≤ 1) (h16 : L.length ≤ 16) (hn : HN T N L) (hc : c < L.length) (A : ABr T L b s c) : mjF (d + 1) 242 [.ref 97, .int (nI (16 * b + c))] (mjW0 s) = some (some (.int (cR b (upT T L c))), mjW0 s) := by
  rw [e_242]
  unfold f_242 b_242_0
  rw [xg_97_16, wa_105 (by omega)]
  unfold ABr at A
  unfold upT
  cases ha : abT T L c with
  | none =>
    rw [ha] at A
    have A' : s.1 105 (16 * b + c) = -1 := A
    rw [A', if_neg (show ¬ (0 : Int32) ≤ -1 by decide)]
    rfl
  | some kk =>
    rw [ha] at A
    obtain ⟨v, k, k1, k2, k3, k4⟩ := A
    rw [k2, if_pos (nI_pos' (by omega)), xg_97_50, xg_97_16, wa_105 (by omega), k2, wa_139 k1, k4.1]
    rfl
end MJA74
end
section
/-! ===== the reference's judge: rings; INS ===== -/
/-- what the judging of INS changes -/
def oIn (C : Nat) : mjSt3 → mjSt3 → Prop := offG (fun h j => (h = 97 ∧ (j = 61 ∨ j = 62)) ∨ ((h = 117 ∨ h = 118) ∧ 8 * C ≤ j ∧ j < 8 * C + 8)) (fun _ _ => False)
section MJA75
variable {T : TT} {d N b k t c n kk C : Nat} {ks : List Nat} {L : List CD} {s s' : mjSt3}
theorem ABr.cg (A : ABr T L b s c) (h1 : s'.1 105 = s.1 105) (h2 : s'.1 138 = s.1 138) (h3 : s'.1 139 = s.1 139) (h4 : s'.1 142 = s.1 142) : ABr T L b s' c := by
  unfold ABr at A ⊢
  cases ha : abT T L c with
  | none => rw [ha] at A; dsimp only at A ⊢; rw [h1]; exact A
  | some kk =>
    rw [ha] at A
    obtain ⟨v, k, k1, k2, k3, k4⟩ := A
    exact ⟨v, k, k1, by rw [h1]; exact k2, by rw [h2]; exact k3, by rw [h3]; exact k4.1, fun i hi => by rw [h4]; exact k4.2 i hi⟩
theorem ABr.up (hn : HN T N L) (A : ABr T L b s c) {x : Nat} (hx : upT T L c = some x) : x < L.length := by
  unfold upT at hx
  unfold ABr at A
  cases ha : abT T L c with
  | none => rw [ha] at hx; cases hx
  | some kk =>
    rw [ha] at hx A
    cases hx
    exact vK.cl hn A.1
theorem L306_S (R : mjR) (n a : Nat) (b e f : Int32) (hp : mjH) : L_306_8 R (n + 1) a b e f hp = b_306_8 R (L_306_8 R n) a b e f hp := rfl
theorem cR_eq (hb : b ≤ 1) {h : Option Nat} (hh : ∀ x, h = some x → x < 16) (hc : c < 16) : cR b h = nI (16 * b + c) ↔ h = some c := by
  cases h with
  | none => exact ⟨fun e => absurd e.symm (nI_m1 (by omega)), fun e => by cases e⟩
  | some x =>
    have := hh x rfl
    constructor
    · intro e
      have e' : nI (16 * b + x) = nI (16 * b + c) := e
      have := (nI_eq (by omega) (by omega)).mp e'
      rw [show x = c by omega]
    · intro e; cases e; rfl
theorem lq_306 (hb : b ≤ 1) (h16 : L.length ≤ 16) (hn : HN T N L) (hc : c < L.length) (A : ∀ x, x < L.length → ABr T L b s x) : ∀ (r i m : Nat) (a : Option Nat), i + r = 16 → r < m → (∀ x, a = some x → x < L.length) → L_306_8 (mjF (d + 1)) m 97 (nI (16 * b + c)) (cR b a) (nI i) (mjW0 s) = b_306_36 (mjF (d + 1)) 97 (nI (16 * b + c)) (cR b (ringW (upT T L) c r a)) (mjW0 s)
  | r, i, 0, a, e, hr, ha => by omega
  | 0, i, m + 1, a, e, hr, ha => by
    rw [L306_S]
    unfold b_306_8
    rw [if_pos (show (16 : Int32) ≤ nI i from nI_le (a := 16) (by omega) (by omega))]
    rfl
  | r + 1, i, m + 1, none, e, hr, ha => by
    rw [L306_S]
    unfold b_306_8
    rw [if_neg (show ¬ (16 : Int32) ≤ nI i from nI_ge (b := 16) (by omega) (by decide)), if_pos (show cR b none = -1 from rfl)]
    rfl
  | r + 1, i, m + 1, some a, e, hr, ha => by
    have al := ha a rfl
    rw [L306_S]
    unfold b_306_8
    rw [if_neg (show ¬ (16 : Int32) ≤ nI i from nI_ge (b := 16) (by omega) (by decide)), if_neg (show ¬ cR b (some a) = -1 from nI_m1 (by omega))]
    by_cases g : a = c
    · rw [if_pos ((cR_eq hb (fun x hx => by cases hx; omega) (by omega)).mpr (by rw [g]))]
      show _ = b_306_36 (mjF (d + 1)) 97 (nI (16 * b + c)) (cR b (if a = c then some a else _)) (mjW0 s)
      rw [if_pos g]
    · rw [if_neg (fun x => g (by have := (cR_eq hb (h := some a) (fun x hx => by cases hx; omega) (by omega)).mp x; cases this; rfl)), xV_97, show cR b (some a) = nI (16 * b + a) from rfl, x_242 hb h16 hn al (A a al), bI_s, nI_1]
      show _ = b_306_36 (mjF (d + 1)) 97 (nI (16 * b + c)) (cR b (if a = c then some a else _)) (mjW0 s)
      rw [if_neg g]
      exact lq_306 hb h16 hn hc A r (i + 1) m (upT T L a) (by omega) (by omega) (fun x hx => (A a al).up hn hx)
/-- judgeRing -/
theorem x_306 (J : RJ T N b ks L s) (hc : c < L.length) (A : ∀ x, x < L.length → ABr T L b s x) (g : GR s) : ∃ s', mjF (d + 2) 306 [.ref 97, .int (nI (16 * b + c))] (mjW0 s) = some (none, mjW0 s') ∧ o61 s s' ∧ GR s' ∧ (gR0 s' ↔ gR0 s ∧ OKr T L c) := by
  have hb := J.b1
  have h16 := J.len
  have hn := J.2.2.2.2.2.1
  have pre : mjF (d + 2) 306 [.ref 97, .int (nI (16 * b + c))] (mjW0 s) = b_306_36 (mjF (d + 1)) 97 (nI (16 * b + c)) (cR b (ringW (upT T L) c 16 (upT T L c))) (mjW0 s) := by
    rw [e_306]
    unfold f_306 b_306_0
    rw [xV_97, x_242 hb h16 hn hc (A c hc), bI_s]
    exact lq_306 hb h16 hn hc A 16 0 mjN (upT T L c) (by omega) (by have := mjN_v; omega) (fun x hx => (A c hc).up hn hx)
  have rl : ∀ x, ringW (upT T L) c 16 (upT T L c) = some x → x < 16 := fun x hx => by
    have := ring_at (c := c) hn (fun y hy => (A c hc).up hn hy) x hx
    omega
  rw [pre]
  unfold b_306_36
  by_cases q : ringW (upT T L) c 16 (upT T L c) = some c
  · rw [if_pos ((cR_eq hb rl (by omega)).mpr q), xg_97_14, wa_103 (by omega), xV_97]
    obtain ⟨s', a1, a2, a3⟩ := x_268 (d := d) g (a := 11) (by decide) (s.1 103 (16 * b + c))
    rw [a1, bN_s]
    exact ⟨s', rfl, a2, Or.inr a3, ⟨fun x => absurd x a3.ng, fun x => absurd q x.2⟩⟩
  · rw [if_neg (fun x => q ((cR_eq hb rl (by omega)).mp x))]
    exact ⟨s, rfl, offG.rf, g, ⟨fun x => ⟨x, q⟩, fun x => x.1⟩⟩
theorem L307_S (R : mjR) (n a : Nat) (b e : Int32) (hp : mjH) : L_307_5 R (n + 1) a b e hp = b_307_5 R (L_307_5 R n) a b e hp := rfl
theorem oIn.J (o : oIn C s s') (J : RJ T N b ks L s) : RJ T N b ks L s' := J.off (o.1 97 63 (by omega)) (fun x hx => funext fun j => o.1 x j (by omega)) (funext fun x => funext fun j => o.2.1 x j (fun e => e))
theorem o61.In (o : o61 s s') : oIn C s s' := offG.mono o (fun _ _ x => Or.inl x) (fun _ _ x => x)
theorem nR_9 {o : Option Nat} (ho : ∀ x, o = some x → x < 5) : nR o = -9 ↔ o = none := by
  cases o with
  | none => exact ⟨fun _ => rfl, fun _ => rfl⟩
  | some x =>
    have := ho x rfl
    refine ⟨fun e => ?_, fun e => by cases e⟩
    have e' : nI x = -9 := e
    have : ¬ nI x < 0 := nI_pos (by omega)
    rw [e'] at this
    exact absurd (by decide) this
theorem lq_307 (hc : c < L.length) : ∀ (r i m : Nat) (s : mjSt3), i + r = inL L c → r < m → RJ T N b ks L s → GR s → (gR0 s → ∀ x, x < i → s.1 117 (8 * (16 * b + c) + x) = nI (ipT T L c x).1 ∧ s.1 118 (8 * (16 * b + c) + x) = nI (ipT T L c x).2) → ∃ s', L_307_5 (mjF (d + 1)) m 97 (nI (16 * b + c)) (nI (8 * (16 * b + c) + i)) (mjW0 s) = some (none, mjW0 s') ∧ oIn (16 * b + c) s s' ∧ GR s' ∧ (gR0 s' ↔ gR0 s ∧ ∀ x, i ≤ x → x < inL L c → ¬ nmK T L c (kyT T ((hC L c).2.2.2.1 + 4 * x)) = none ∧ ¬ nmK T L c (kyT T ((hC L c).2.2.2.1 + 4 * x + 2)) = none) ∧ (gR0 s' → ∀ x, x < inL L c → s'.1 117 (8 * (16 * b + c) + x) = nI (ipT T L c x).1 ∧ s'.1 118 (8 * (16 * b + c) + x) = nI (ipT T L c x).2)
  | r, i, 0, s, e, hr, J, g, w => by omega
  | 0, i, m + 1, s, e, hr, J, g, w => by
    have hb := J.b1
    have h16 := J.len
    have H := J.hd hc
    have i8 : inL L c ≤ 8 := H.2.2.2.2.2.2.2.2
    refine ⟨s, ?_, offG.rf, g, ⟨fun x => ⟨x, fun y h1 h2 => by omega⟩, fun x => x.1⟩, fun x y hy => w x y (by omega)⟩
    rw [L307_S]
    unfold b_307_5
    rw [xg_97_17, wa_106 (by omega), show s.1 106 (16 * b + c) = nI (inL L c) from H.2.2.2.2.2.1.1, i8m, if_pos (nI_le (by omega) (by omega))]
  | r + 1, i, m + 1, s, e, hr, J, g, w => by
    have hb := J.b1
    have h16 := J.len
    have hn := J.2.2.2.2.2.1
    have H := J.hd hc
    have i8 : inL L c ≤ 8 := H.2.2.2.2.2.2.2.2
    obtain ⟨C, hC'⟩ : ∃ C, C = 16 * b + c := ⟨_, rfl⟩
    have kA : s.2.1 113 (8 * (16 * b + c) + i) = kyT T ((hC L c).2.2.2.1 + 4 * i) := (H.2.2.2.2.2.1.2 i (show i < (hC L c).2.2.2.2 by unfold inL at e; omega)).1
    have kB : s.2.1 114 (8 * (16 * b + c) + i) = kyT T ((hC L c).2.2.2.1 + 4 * i + 2) := (H.2.2.2.2.2.1.2 i (show i < (hC L c).2.2.2.2 by unfold inL at e; omega)).2.2.1
    rw [L307_S]
    unfold b_307_5
    rw [xg_97_17, wa_106 (by omega), show s.1 106 (16 * b + c) = nI (inL L c) from H.2.2.2.2.2.1.1, i8m, if_neg (nI_ge (by omega) (by omega)), xg_97_61]
    by_cases g0 : s.1 97 61 = 0
    · obtain ⟨z1, h1⟩ : ∃ z, z = uI s 117 (upd (s.1 117) (8 * (16 * b + c) + i) (nR (nmK T L c (kyT T ((hC L c).2.2.2.1 + 4 * i))))) := ⟨_, rfl⟩
      obtain ⟨z2, h2⟩ : ∃ z, z = uI z1 118 (upd (z1.1 118) (8 * (16 * b + c) + i) (nR (nmK T L c (kyT T ((hC L c).2.2.2.1 + 4 * i + 2))))) := ⟨_, rfl⟩
      have o1 : oIn (16 * b + c) s z1 := by rw [h1]; exact offG.w (Or.inr ⟨Or.inl rfl, by omega, by omega⟩)
      have o2 : oIn (16 * b + c) z1 z2 := by rw [h2]; exact offG.w (Or.inr ⟨Or.inr rfl, by omega, by omega⟩)
      have J1 := oIn.J o1 J
      have J2 := oIn.J o2 J1
      have l1 : z1.2.1 = s.2.1 := by rw [h1]; rfl
      have e117 : z2.1 117 (8 * (16 * b + c) + i) = nR (nmK T L c (kyT T ((hC L c).2.2.2.1 + 4 * i))) := by rw [h2, uI_ne _ _ _ _ (by decide), h1, uI_same, upd_g, if_pos rfl]
      have e118 : z2.1 118 (8 * (16 * b + c) + i) = nR (nmK T L c (kyT T ((hC L c).2.2.2.1 + 4 * i + 2))) := by rw [h2, uI_same, upd_g, if_pos rfl]
      have g2 : gR0 z2 := by unfold gR0; rw [h2, uI_ne _ _ _ _ (by decide), h1, uI_ne _ _ _ _ (by decide)]; exact g0
      rw [if_pos g0, xg_97_28, xg_97_24, wa_113 (by omega), kA, xV_97, x_305 J hc, bI_s, ws_117 (by omega), ← h1, xg_97_29, xg_97_25, wa_114 (by omega), l1, kB, xV_97, x_305 J1 hc, bI_s, ws_118 (by omega), ← h2, xg_97_28, wa_117 (by omega), e117]
      -- both bad roads go on to the end
      have bad : ∀ z, oIn (16 * b + c) s z → bR0 z → ¬ (¬ nmK T L c (kyT T ((hC L c).2.2.2.1 + 4 * i)) = none ∧ ¬ nmK T L c (kyT T ((hC L c).2.2.2.1 + 4 * i + 2)) = none) → ∃ s', L_307_5 (mjF (d + 1)) m 97 (nI (16 * b + c)) (nI (8 * (16 * b + c) + (i + 1))) (mjW0 z) = some (none, mjW0 s') ∧ oIn (16 * b + c) s s' ∧ GR s' ∧ (gR0 s' ↔ gR0 s ∧ ∀ x, i ≤ x → x < inL L c → ¬ nmK T L c (kyT T ((hC L c).2.2.2.1 + 4 * x)) = none ∧ ¬ nmK T L c (kyT T ((hC L c).2.2.2.1 + 4 * x + 2)) = none) ∧ (gR0 s' → ∀ x, x < inL L c → s'.1 117 (8 * (16 * b + c) + x) = nI (ipT T L c x).1 ∧ s'.1 118 (8 * (16 * b + c) + x) = nI (ipT T L c x).2) := by
        intro z oz bz nz
        obtain ⟨s', b1, b2', b3, b4, b5⟩ := lq_307 hc r (i + 1) m z (by omega) (by omega) (oIn.J oz J) (Or.inr bz) (fun x => absurd x bz.ng)
        exact ⟨s', b1, oz.tr b2', b3, ⟨fun x => absurd (b4.mp x).1 bz.ng, fun x => absurd (x.2 i (Nat.le_refl _) (by omega)) nz⟩, b5⟩
      have la : ∀ key x, nmK T L c key = some x → x < 5 := fun key x hx => nmK_lt hn hc hx
      unfold b_307_83 b_307_105
      by_cases qa : nmK T L c (kyT T ((hC L c).2.2.2.1 + 4 * i)) = none
      · rw [if_pos ((nR_9 (la _)).mpr qa), xg_97_26, wa_115 (by omega), xV_97]
        obtain ⟨z3, a1, a2, a3⟩ := x_268 (d := d) (s := z2) (Or.inl g2) (a := 5) (by decide) (z2.1 115 (8 * (16 * b + c) + i))
        rw [a1, bN_s, xg_97_29, wa_118 (by omega), nI_1, show 8 * (16 * b + c) + i + 1 = 8 * (16 * b + c) + (i + 1) by omega, a2.1 118 _ (by omega), e118]
        have o3 : oIn (16 * b + c) s z3 := (o1.tr o2).tr (o61.In a2)
        by_cases qb : nmK T L c (kyT T ((hC L c).2.2.2.1 + 4 * i + 2)) = none
        · rw [if_pos ((nR_9 (la _)).mpr qb), xg_97_27, wa_116 (by omega), xV_97]
          obtain ⟨z4, c1, c2, c3⟩ := x_268 (d := d) (s := z3) (Or.inr a3) (a := 5) (by decide) (z3.1 116 (8 * (16 * b + c) + i))
          rw [c1, bN_s]
          exact bad z4 (o3.tr (o61.In c2)) c3 (fun x => x.1 qa)
        · rw [if_neg (fun x => qb ((nR_9 (la _)).mp x))]
          exact bad z3 o3 a3 (fun x => x.1 qa)
      · rw [if_neg (fun x => qa ((nR_9 (la _)).mp x)), xg_97_29, wa_118 (by omega), nI_1, show 8 * (16 * b + c) + i + 1 = 8 * (16 * b + c) + (i + 1) by omega, e118]
        by_cases qb : nmK T L c (kyT T ((hC L c).2.2.2.1 + 4 * i + 2)) = none
        · rw [if_pos ((nR_9 (la _)).mpr qb), xg_97_27, wa_116 (by omega), xV_97]
          obtain ⟨z4, c1, c2, c3⟩ := x_268 (d := d) (s := z2) (Or.inl g2) (a := 5) (by decide) (z2.1 116 (8 * (16 * b + c) + i))
          rw [c1, bN_s]
          exact bad z4 ((o1.tr o2).tr (o61.In c2)) c3 (fun x => x.2 qb)
        · rw [if_neg (fun x => qb ((nR_9 (la _)).mp x))]
          obtain ⟨s', b1, b2', b3, b4, b5⟩ := lq_307 hc r (i + 1) m z2 (by omega) (by omega) J2 (Or.inl g2) (fun x y hy => by
            by_cases e' : y = i
            · subst e'
              rw [e117, e118]
              unfold ipT
              cases ha : nmK T L c (kyT T ((hC L c).2.2.2.1 + 4 * y)) with
              | none => exact absurd ha qa
              | some u =>
                cases hb' : nmK T L c (kyT T ((hC L c).2.2.2.1 + 4 * y + 2)) with
                | none => exact absurd hb' qb
                | some v => exact ⟨rfl, rfl⟩
            · have := w g0 y (by omega)
              rw [h2, uI_ne _ _ _ _ (by decide), h1, uI_same, upd_g, if_neg (by omega), uI_same, upd_g, if_neg (by omega), uI_ne _ _ _ _ (by decide)]
              exact this)
          refine ⟨s', b1, (o1.tr o2).tr b2', b3, ⟨fun x => ⟨g0, fun y h1 h2 => ?_⟩, fun x => b4.mpr ⟨g2, fun y h1 h2 => x.2 y (by omega) h2⟩⟩, b5⟩
          by_cases e' : y = i
          · rw [e']; exact ⟨qa, qb⟩
          · exact (b4.mp x).2 y (by omega) h2
    · rw [if_neg g0]
      exact ⟨s, rfl, offG.rf, g, ⟨fun x => absurd x g0, fun x => absurd x.1 g0⟩, fun x => absurd x g0⟩
/-- judgeIns -/
theorem x_307 (J : RJ T N b ks L s) (hc : c < L.length) (g : GR s) : ∃ s', mjF (d + 2) 307 [.ref 97, .int (nI (16 * b + c))] (mjW0 s) = some (none, mjW0 s') ∧ oIn (16 * b + c) s s' ∧ GR s' ∧ (gR0 s' ↔ gR0 s ∧ OKc T L c) ∧ (gR0 s' → ∀ x, x < inL L c → s'.1 117 (8 * (16 * b + c) + x) = nI (ipT T L c x).1 ∧ s'.1 118 (8 * (16 * b + c) + x) = nI (ipT T L c x).2) := by
  have i8 : inL L c ≤ 8 := (J.hd hc).2.2.2.2.2.2.2.2
  obtain ⟨s', b1, b2', b3, b4, b5⟩ := lq_307 (d := d) hc (inL L c) 0 mjN s (by omega) (by have := mjN_v; omega) J g (fun _ x hx => by omega)
  refine ⟨s', ?_, b2', b3, b4.trans ⟨fun x => ⟨x.1, fun y hy => x.2 y (Nat.zero_le _) hy⟩, fun x => ⟨x.1, fun y _ hy => x.2 y hy⟩⟩, b5⟩
  rw [e_307]
  unfold f_307 b_307_0
  rw [show (8 : Int32) * nI (16 * b + c) = nI (8 * (16 * b + c) + 0) by rw [show (8 : Int32) = nI 8 from rfl, nI_mul]; rfl]
  exact b1
end MJA75
end
section
/-! ===== the reference's judge: MEMBERS; where their TYPES stand ===== -/
/-- the TYPES' numbers and places -/
def ORD (T : TT) (b : Nat) (ks : List Nat) (L : List CD) : Prop := (∀ m, m < nMem L → TyI T b ks (mdM L m).1 (mdM L m).2.2.2.2.2.2.2 ∧ ∀ (i : Nat) (p : Nat × Nat × Int32), (psM L m)[i]? = some p → TyI T b ks p.1 p.2.2 ∧ (mdM L m).1 < p.1 ∧ ∀ (j : Nat) (p' : Nat × Nat × Int32), j < i → (psM L m)[j]? = some p' → p'.1 < p.1) ∧ (∀ m' m, m' < m → m < nMem L → (mdM L m').1 < (mdM L m).1 ∧ ∀ (i : Nat) (p : Nat × Nat × Int32), (psM L m')[i]? = some p → p.1 < (mdM L m).1) ∧ ∀ c, c < L.length → ¬ (hC L c).2.2.1 = 0 → (∀ m, m < nMem L → ¬ (mdM L m).1 = (hC L c).2.2.1 ∧ ∀ (i : Nat) (p : Nat × Nat × Int32), (psM L m)[i]? = some p → ¬ p.1 = (hC L c).2.2.1) ∧ ∀ c', c' < L.length → ¬ (hC L c').2.2.1 = 0 → ¬ c = c' → ¬ (hC L c).2.2.1 = (hC L c').2.2.1
/-- the TYPES of MEMBER m were judged -/
def TMr (T : TT) (L : List CD) (b : Nat) (s : mjSt3) (m : Nat) : Prop := TKr L b s (s.1 126 (400 * b + m)) (tyM T L m) ∧ ∀ i, i < (psM L m).length → TKr L b s (s.1 133 (6 * (400 * b + m) + i)) (pyT T L m i)
section MJA76
variable {T : TT} {d N b k t c n kk m k0 kb : Nat} {ks : List Nat} {L : List CD} {s s' : mjSt3} {ti ti' : Int32} {pt : PT} {rs : List RcM} {z : PB}
theorem TyI.ne {t' : Nat} (h : TyI T b ks t ti) (h' : TyI T b ks t' ti') (hks : ks.length ≤ 750) (hb : b ≤ 1) (ne : ¬ t = t') : ∀ k, k < 1600 → ti' = nI k → ¬ (ti = nI k ∧ k < 1600) := by
  intro k k1 k2 ⟨k3, _⟩
  rcases h with ⟨_, e⟩ | ⟨_, i, i1, i2⟩
  · rw [k3] at e
    exact nI_m1 (by omega) e
  · rcases h' with ⟨_, e⟩ | ⟨_, j, j1, j2⟩
    · rw [k2] at e
      exact nI_m1 (by omega) e
    · have hi := (List.getElem?_eq_some_iff.mp i1).1
      have hj := (List.getElem?_eq_some_iff.mp j1).1
      have e : nI (800 * b + i) = nI (800 * b + j) := by rw [← i2, ← j2, k2, k3]
      have := (nI_eq (by omega) (by omega)).mp e
      have e2 : i = j := by omega
      subst e2
      rw [i1] at j1
      cases j1
      exact ne rfl
/-- the KINDS of a bank -/
def bkP (b x : Nat) : Prop := 800 * b ≤ x ∧ x < 800 * b + 800
theorem TyI.bk (h : TyI T b ks t ti) (hks : ks.length ≤ 750) (hb : b ≤ 1) : ∀ x, (ti = nI x ∧ x < 1600) → bkP b x := by
  intro x ⟨h1, h2⟩
  rcases h with ⟨_, e⟩ | ⟨_, i, i1, i2⟩
  · rw [h1] at e
    exact absurd e (nI_m1 (by omega))
  · have hi := (List.getElem?_eq_some_iff.mp i1).1
    rw [h1] at i2
    have := (nI_eq (by omega) (by omega)).mp i2
    unfold bkP
    omega
theorem keepT {t' ty : Nat} (J : RJ T N b ks L s) (h : TyI T b ks t ti) (h' : TyI T b ks t' ti') (ne : ¬ t = t') (o : oTy (fun x => ti = nI x ∧ x < 1600) s s') (K : TKr L b s ti' ty) : TKr L b s' ti' ty := K.keep J.2.2.2.2.2.1 o (TyI.ne h h' J.2.2.2.1 J.b1 ne)
theorem keepA (J : RJ T N b ks L s) (h : TyI T b ks t ti) (hc : c < L.length) (ne : ¬ (hC L c).2.2.1 = 0 → ¬ t = (hC L c).2.2.1) (o : oTy (fun x => ti = nI x ∧ x < 1600) s s') (A : ABr T L b s c) : ABr T L b s' c := by
  have hn := J.2.2.2.2.2.1
  have r := fun x (h1 : ¬ x = 97) (h2 : ¬ x = 139) (h3 : ¬ x = 142) => o.r h1 h2 h3
  unfold ABr at A ⊢
  cases ha : abT T L c with
  | none => rw [ha] at A; dsimp only at A ⊢; rw [r 105 (by decide) (by decide) (by decide)]; exact A
  | some kk =>
    rw [ha] at A
    obtain ⟨v, k, k1, k2, k3, k4⟩ := A
    have z : ¬ (hC L c).2.2.1 = 0 := fun e => by unfold abT at ha; rw [if_pos e] at ha; cases ha
    refine ⟨v, k, k1, by rw [r 105 (by decide) (by decide) (by decide)]; exact k2, by rw [r 138 (by decide) (by decide) (by decide)]; exact k3, k4.keep (vK.n5 hn (vK.cl hn v)).2 o ?_⟩
    obtain ⟨_, i, i1, i2⟩ := (J.hd hc).2.2.2.2.1 z
    intro ⟨q1, _⟩
    have hi := (List.getElem?_eq_some_iff.mp i1).1
    have l750 := J.2.2.2.1
    have hb := J.b1
    rcases h with ⟨_, e⟩ | ⟨_, j, j1, j2⟩
    · rw [q1] at e
      exact nI_m1 (by omega) e
    · have hj := (List.getElem?_eq_some_iff.mp j1).1
      have e : nI (800 * b + i) = nI (800 * b + j) := by rw [← i2, ← j2, k2, q1]
      have := (nI_eq (by omega) (by omega)).mp e
      have e2 : i = j := by omega
      subst e2
      rw [i1] at j1
      cases j1
      exact ne z rfl
/-- MEMBER m's rows -/
theorem RJ.mem (J : RJ T N b ks L s) (hm : m < nMem L) : RM T s (400 * b + m) (16 * b + hmM L m) (mdM L m) ∧ hmM L m < L.length := by
  obtain ⟨c, D, k, h1, h2, h3, h4⟩ := FL_ex hm
  have := (J.2.1.2.2 c D h1).2.2 k _ h2
  rw [← h3] at this
  rw [h4]
  exact ⟨this, (List.getElem?_eq_some_iff.mp h1).1⟩
theorem RJ.n384 (J : RJ T N b ks L s) : nMem L ≤ 384 := by
  have a := nMem_le L J.2.2.2.2.1
  have b := J.len
  omega
/-- ORD out of what was read -/
theorem ORD_of (R : TRc T N k0 pt rs kb z) (X : TRx pt rs) (hk : k0 = 800 * b) (hb : b ≤ 1) (hN : N ≤ 3000) : ORD T b pt.2.2.1 pt.1 := by
  have hk0 : k0 ≤ 1000 := by omega
  have r4 := R.2.2.2.1
  have OE := OT_ex (0, 0, 0, 0, 0) pt.2.2.2.1
  have AE := AGf_ex pt.2.2.2.2.1 R.2.2.1 (fun _ => 0)
  have KE := R.kex hN hk0
  have ktd : ∀ d : Nat, KT (fun a => (pt.2.2.1[nN a - k0]?).getD d) k0 pt.2.2.1 := fun d i u hi => by
    have hi' := (List.getElem?_eq_some_iff.mp hi).1
    dsimp only
    rw [nN_nI (by omega), show k0 + i - k0 = i by omega, hi]
    rfl
  have two : ∀ (x t : Nat), (pt.2.2.1[x]?).getD 0 = t → (pt.2.2.1[x]?).getD 1 = t → pt.2.2.1[x]? = some t := by
    intro x t h0 h1
    cases hx : pt.2.2.1[x]? with
    | some u => rw [hx] at h0; exact congrArg some h0
    | none =>
      rw [hx] at h0 h1
      rw [← h0] at h1
      cases h1
  have ty : ∀ (t kq : Nat), k0 ≤ kq → kq < 10000 → (∀ d : Nat, KT (fun a => (pt.2.2.1[nN a - k0]?).getD d) kq (tyL T t)) → TyI T b pt.2.2.1 t (tyK T t kq) := by
    intro t kq h0 h1 h2
    unfold tyK
    by_cases g : (T t).1 = 10
    · rw [if_pos g]; exact Or.inl ⟨g, rfl⟩
    · rw [if_neg g]
      have e : tyL T t = [t] := if_neg g
      have A : ∀ d : Nat, (pt.2.2.1[kq - k0]?).getD d = t := by
        intro d
        have := h2 d 0 t (by rw [e]; rfl)
        dsimp only at this
        rw [nN_nI (by omega), show kq + 0 - k0 = kq - k0 by omega] at this
        exact this
      exact Or.inr ⟨g, kq - k0, two _ _ (A 0) (A 1), by rw [show 800 * b + (kq - k0) = kq by omega]⟩
  have mok : ∀ (m : Nat) (r : RcM), rs[m]? = some r → ∀ d : Nat, MOK T (N + 1) (fun a => (pt.2.2.1[nN a - k0]?).getD d) (otL (0, 0, 0, 0, 0) pt.2.2.2.1) (rAg pt.2.2.2.2.1 (fun _ => 0)) k0 r.1 r.2.1 r.2.2.1 r.2.2.2.1 r.2.2.2.2 ∧ r.2.1 < pt.2.1.1 := fun m r hr d => R.mok (ktd d) OE AE hr
  have tN := R.2.2.2.2.2.2.1
  have P1 : ∀ m, m < nMem pt.1 → ∃ r : RcM, rs[m]? = some r ∧ r.1 = mdM pt.1 m ∧ (mdM pt.1 m).1 < r.2.1 ∧ TyI T b pt.2.2.1 (mdM pt.1 m).1 (mdM pt.1 m).2.2.2.2.2.2.2 ∧ ∀ (i : Nat) (p : Nat × Nat × Int32), (psM pt.1 m)[i]? = some p → TyI T b pt.2.2.1 p.1 p.2.2 ∧ (mdM pt.1 m).1 < p.1 ∧ p.1 < r.2.1 ∧ ∀ (j : Nat) (p' : Nat × Nat × Int32), j < i → (psM pt.1 m)[j]? = some p' → p'.1 < p.1 := by
    intro m hm
    obtain ⟨r, hr, er⟩ := R.at hm
    obtain ⟨⟨m1, m2, m3, m4, m5, m6, m7, m8⟩, en⟩ := mok m r hr 0
    refine ⟨r, hr, er, by rw [← er]; omega, ?_, ?_⟩
    · rw [← er, m3]
      exact ty _ _ m7.1 (by omega) (fun d => (mok m r hr d).1.2.2.2.1)
    · intro i p hp
      unfold psM at hp
      rw [← er] at hp ⊢
      have get : ∀ d : Nat, ∃ en kq', PLok T (fun a => (pt.2.2.1[nN a - k0]?).getD d) (r.1.2.1 + 2) kq' r.1.2.2.2.1 r.2.2.2.1.2.2 en ∧ en < r.2.1 + 1 ∧ k0 ≤ kq' ∧ kq' + r.2.2.2.1.2.2.length < 9000 := by
        intro d
        obtain ⟨⟨q1, q2, q3, q4, q5, q6, q7, q8⟩, _⟩ := mok m r hr d
        rcases q8 with ⟨_, e, _⟩ | ⟨_, _, _, e, e3, e4, e5, e6, e7, e8, _, _, _, _, _, e14⟩
        · rw [e] at hp; cases hp
        · rcases e4 with ⟨_, e4⟩ | e4
          · rw [e, e4] at hp; cases hp
          · have hz := (prS_ln 30 0 1 _ _ _ _ _ (by omega) e7).1
            refine ⟨r.2.2.2.1.1, _, by rw [e]; exact e4, by omega, by omega, by omega⟩
      obtain ⟨en0, kq0, L0, l1, l2, l3⟩ := get 0
      obtain ⟨en1, kq1, L1, l4, l5, l6⟩ := get 1
      obtain ⟨a1, a2, a3, a4, a5, kk0, b1, b2, b3, b4⟩ := L0.2.2.2.2 i p hp
      obtain ⟨_, _, _, _, _, kk1, c1, c2, c3, c4⟩ := L1.2.2.2.2 i p hp
      have mono : ∀ (j : Nat) (p' : Nat × Nat × Int32), r.1.2.2.2.1[j]? = some p' → r.1.2.1 + 2 ≤ p'.1 ∧ ∀ (x : Nat) (px : Nat × Nat × Int32), x < j → r.1.2.2.2.1[x]? = some px → px.1 < p'.1 := by
        intro j
        induction j with
        | zero =>
          intro p' hp'
          obtain ⟨_, _, w3, _⟩ := L0.2.2.2.2 0 p' hp'
          exact ⟨by rw [w3]; exact Nat.le_refl _, fun x px hx => by omega⟩
        | succ j ih =>
          intro p' hp'
          obtain ⟨_, _, w3, _⟩ := L0.2.2.2.2 (j + 1) p' hp'
          have hj : j < r.1.2.2.2.1.length := by have := (List.getElem?_eq_some_iff.mp hp').1; omega
          obtain ⟨pj, hpj⟩ : ∃ pj, r.1.2.2.2.1[j]? = some pj := ⟨_, List.getElem?_eq_getElem hj⟩
          obtain ⟨_, _, _, v4, _⟩ := L0.2.2.2.2 j pj hpj
          have w4 : p'.1 = pj.2.1 + 2 := by
            rw [w3]
            show (match r.1.2.2.2.1[j]? with
              | some p => p.2.1 + 2
              | none => 0) = _
            rw [hpj]
          obtain ⟨i1, i2⟩ := ih pj hpj
          refine ⟨by omega, fun x px hx hpx => ?_⟩
          by_cases e : x = j
          · subst e
            rw [hpj] at hpx
            cases hpx
            omega
          · have := i2 x px (by omega) hpx
            omega
      obtain ⟨mn1, mn2⟩ := mono i p hp
      refine ⟨?_, by omega, by omega, fun j p' hj hp' => ?_⟩
      · by_cases g : (T p.1).1 = 10
        · exact Or.inl ⟨g, by rw [b3]; exact if_pos g⟩
        · have e0 : p.2.2 = nI kk0 := by rw [b3]; exact if_neg g
          have e1 : p.2.2 = nI kk1 := by rw [c3]; exact if_neg g
          have ek : kk0 = kk1 := (nI_eq (by omega) (by omega)).mp (e0.symm.trans e1)
          subst ek
          have e : tyL T p.1 = [p.1] := if_neg g
          have A0 := b4 0 p.1 (by rw [e]; rfl)
          have A1 := c4 0 p.1 (by rw [e]; rfl)
          dsimp only at A0 A1
          rw [nN_nI (by omega), show kk0 + 0 - k0 = kk0 - k0 by omega] at A0 A1
          exact Or.inr ⟨g, kk0 - k0, two _ _ A0 A1, by rw [e0, show 800 * b + (kk0 - k0) = kk0 by omega]⟩
      · unfold psM at hp'
        rw [← er] at hp'
        exact mn2 j p' hj hp'
  refine ⟨fun m hm => ?_, fun m' m h1 h2 => ?_, fun c hc zc => ⟨fun m hm => ?_, fun c' hc' zc' ne => X.hh hc hc' ne zc zc'⟩⟩
  · obtain ⟨r, _, _, _, a, b⟩ := P1 m hm
    exact ⟨a, fun i p hp => ⟨(b i p hp).1, (b i p hp).2.1, (b i p hp).2.2.2⟩⟩
  · obtain ⟨r, hr, er, e1, _, b⟩ := P1 m' (by omega)
    obtain ⟨r', hr', er', _⟩ := P1 m h2
    have lt := (R.2.2.2.2.2.2.2.2.2.2 _ _ _ KE OE AE).1.lt h1 hr hr'
    rw [er'] at lt
    exact ⟨by omega, fun i p hp => by have := (b i p hp).2.2.1; omega⟩
  · obtain ⟨r, hr, er, e1, _, b⟩ := P1 m hm
    have hx := X.hr hc zc hr
    rw [er] at hx
    unfold abK at hx
    exact ⟨fun e => hx ⟨by omega, by omega⟩, fun i p hp e => hx ⟨by have := (b i p hp).2.1; omega, by have := (b i p hp).2.2.1; omega⟩⟩
end MJA76
end
section
/-! ===== the reference's judge: judgeMembers ===== -/
def SJ (T : TT) (N b : Nat) (ks : List Nat) (L : List CD) (tr : Bool) (s : mjSt3) : Prop := RJ T N b ks L s ∧ WIT b s L.length (knF T L) ∧ IRr T L b s ∧ s.1 97 129 = b2 tr
section MJA77
variable {T : TT} {d N b k t c n m : Nat} {ks : List Nat} {L : List CD} {s s' : mjSt3} {tr : Bool} {P : Nat → Prop}
theorem SJ.ty (S : SJ T N b ks L tr s) (o : oTy P s s') : SJ T N b ks L tr s' := by
  obtain ⟨a, w, i, t⟩ := S
  refine ⟨oTy.J o a, ?_, ?_, by rw [o.f (by decide) (by decide)]; exact t⟩
  · unfold WIT; rw [o.r (by decide) (by decide) (by decide)]; exact w
  · unfold IRr; rw [o.r (by decide) (by decide) (by decide), o.r (by decide) (by decide) (by decide)]; exact i
/-- TYPES judged ahead of PARAM i of MEMBER m -/
def PV (T : TT) (L : List CD) (b m i : Nat) (s : mjSt3) : Prop := (∀ x, x < m → TMr T L b s x) ∧ TKr L b s (s.1 126 (400 * b + m)) (tyM T L m) ∧ (∀ x, x < i → TKr L b s (s.1 133 (6 * (400 * b + m) + x)) (pyT T L m x)) ∧ ∀ x, x < L.length → ABr T L b s x
theorem TMr.o61 (K : TMr T L b s m) (o : o61 s s') (hn : HN T N L) : TMr T L b s' m := by
  have o' : oTy (fun _ => False) s s' := o61.Ty o
  refine ⟨?_, fun i hi => ?_⟩
  · rw [o'.r (by decide) (by decide) (by decide)]; exact K.1.keep hn o' (fun _ _ _ h => h)
  · rw [o'.r (by decide) (by decide) (by decide)]; exact (K.2 i hi).keep hn o' (fun _ _ _ h => h)
theorem ABr.o61 (A : ABr T L b s c) (o : o61 s s') : ABr T L b s' c := A.cg (funext fun j => o.1 105 j (by omega)) (funext fun j => o.1 138 j (by omega)) (funext fun j => o.1 139 j (by omega)) (funext fun j => o.1 142 j (by omega))
theorem PV.o61 {i : Nat} (V : PV T L b m i s) (o : o61 s s') (hn : HN T N L) : PV T L b m i s' := by
  have o' : oTy (fun _ => False) s s' := o61.Ty o
  refine ⟨fun x hx => (V.1 x hx).o61 o hn, ?_, fun x hx => ?_, fun x hx => (V.2.2.2 x hx).o61 o⟩
  · rw [o'.r (by decide) (by decide) (by decide)]; exact V.2.1.keep hn o' (fun _ _ _ h => h)
  · rw [o'.r (by decide) (by decide) (by decide)]; exact (V.2.2.1 x hx).keep hn o' (fun _ _ _ h => h)
theorem i6m (b c : Nat) : (6 : Int32) * nI b + nI c = nI (6 * b + c) := by rw [show (6 : Int32) = nI 6 from rfl, nI_mul, nI_ad]
theorem i6 (b : Nat) : (6 : Int32) * nI b = nI (6 * b) := by rw [show (6 : Int32) = nI 6 from rfl, nI_mul]
theorem L309_178 (R : mjR) (k : Nat → Int32 → Int32 → mjH → mjU) (k' : Nat → Int32 → Int32 → Int32 → mjH → mjU) (n a : Nat) (b e f g : Int32) (hp : mjH) : L_309_178 R k k' (n + 1) a b e f g hp = b_309_178 R k k' (L_309_178 R k k' n) a b e f g hp := rfl
theorem L309_139 (R : mjR) (k : Nat → Int32 → Int32 → mjH → mjU) (n a : Nat) (b e f : Int32) (hp : mjH) : L_309_139 R k (n + 1) a b e f hp = b_309_139 R k (L_309_139 R k n) a b e f hp := rfl
theorem L309_96 (R : mjR) (k : Nat → Int32 → Int32 → mjH → mjU) (n a : Nat) (b e f : Int32) (hp : mjH) : L_309_96 R k (n + 1) a b e f hp = b_309_96 R k (L_309_96 R k n) a b e f hp := rfl
theorem L309_36 (R : mjR) (n a : Nat) (b e : Int32) (hp : mjH) : L_309_36 R (n + 1) a b e hp = b_309_36 R (L_309_36 R n) a b e hp := rfl
/-- a PARAM's NAME -/
theorem RJ.pn (J : RJ T N b ks L s) (hm : m < nMem L) {i : Nat} (hi : i < (psM L m).length) : s.2.1 135 (6 * (400 * b + m) + i) = kyT T (pnT L m i) := by
  obtain ⟨p, hp⟩ : ∃ p, (psM L m)[i]? = some p := ⟨_, List.getElem?_eq_getElem hi⟩
  have := ((J.mem hm).1.2.2.1.2 i p hp).2.2
  unfold pnT
  rw [hp]
  exact this
theorem RJ.p6 (J : RJ T N b ks L s) (hm : m < nMem L) : s.1 128 (400 * b + m) = nI (psM L m).length ∧ (psM L m).length ≤ 6 := ⟨(J.mem hm).1.2.2.1.1, (J.mem hm).1.2.2.2.2.2⟩
theorem lq_309q (hm : m < nMem L) {i : Nat} (hi : i < (psM L m).length) {ci : Int32} {k36 : Nat → Int32 → Int32 → mjH → mjU} {k139 : Nat → Int32 → Int32 → Int32 → mjH → mjU} : ∀ (r j n : Nat) (s : mjSt3), j + r = i → r < n → RJ T N b ks L s → GR s → ∃ s', L_309_178 (mjF (d + 1)) k36 k139 n 97 ci (nI (400 * b + m)) (nI (6 * (400 * b + m) + i)) (nI (6 * (400 * b + m) + j)) (mjW0 s) = k139 97 ci (nI (400 * b + m)) (nI (6 * (400 * b + m) + (i + 1))) (mjW0 s') ∧ o61 s s' ∧ GR s' ∧ (gR0 s' ↔ gR0 s ∧ ∀ x, j ≤ x → x < i → ¬ kyT T (pnT L m x) = kyT T (pnT L m i))
  | r, j, 0, s, e, hr, J, g => by omega
  | 0, j, n + 1, s, e, hr, J, g => by
    refine ⟨s, ?_, offG.rf, g, ⟨fun x => ⟨x, fun y h1 h2 => by omega⟩, fun x => x.1⟩⟩
    rw [L309_178]
    unfold b_309_178
    rw [if_pos (show nI (6 * (400 * b + m) + i) ≤ nI (6 * (400 * b + m) + j) by rw [show i = j by omega]; exact Int32.le_refl _), nI_1]
    rfl
  | r + 1, j, n + 1, s, e, hr, J, g => by
    have hb := J.b1
    have m384 := J.n384
    have p6 := (J.p6 hm).2
    rw [L309_178]
    unfold b_309_178 b_309_212
    rw [if_neg (show ¬ nI (6 * (400 * b + m) + i) ≤ nI (6 * (400 * b + m) + j) from nI_ge (by omega) (by omega)), xg_97_46, wa_135 (by omega), J.pn hm (show j < (psM L m).length by omega), xg_97_46, wa_135 (by omega), J.pn hm hi, nI_1, show 6 * (400 * b + m) + j + 1 = 6 * (400 * b + m) + (j + 1) by omega]
    by_cases q : kyT T (pnT L m j) = kyT T (pnT L m i)
    · rw [if_pos ((lg_cmp_eq _ _).mpr q), xg_97_45, wa_134 (by omega), xV_97]
      obtain ⟨z, a1, a2, a3⟩ := x_268 (d := d) g (a := 4) (by decide) (s.1 134 (6 * (400 * b + m) + i))
      rw [a1, bN_s]
      obtain ⟨s', b1, b2', b3, b4⟩ := lq_309q hm hi (ci := ci) (k36 := k36) (k139 := k139) r (j + 1) n z (by omega) (by omega) (o61.J a2 J) (Or.inr a3)
      exact ⟨s', b1, a2.tr b2', b3, ⟨fun x => absurd (b4.mp x).1 a3.ng, fun x => absurd q (x.2 j (Nat.le_refl _) (by omega))⟩⟩
    · rw [if_neg (fun x => q ((lg_cmp_eq _ _).mp x))]
      obtain ⟨s', b1, b2', b3, b4⟩ := lq_309q hm hi (ci := ci) (k36 := k36) (k139 := k139) r (j + 1) n s (by omega) (by omega) J g
      refine ⟨s', b1, b2', b3, b4.trans ⟨fun x => ⟨x.1, fun y h1 h2 => ?_⟩, fun x => ⟨x.1, fun y h1 h2 => x.2 y (by omega) h2⟩⟩⟩
      by_cases e' : y = j
      · rw [e']; exact q
      · exact x.2 y (by omega) h2
theorem OKp_iff {i : Nat} (hi : i < (psM L m).length) : OKp T L tr m i ↔ tyOK T L tr (some (hmM L m)) (match (psM L m)[i]? with
    | some p => p.1
    | none => 0) ∧ ∀ x, x < i → ¬ kyT T (pnT L m x) = kyT T (pnT L m i) := by
  obtain ⟨p, hp⟩ : ∃ p, (psM L m)[i]? = some p := ⟨_, List.getElem?_eq_getElem hi⟩
  have e : pnT L m i = p.2.1 := by unfold pnT; rw [hp]
  rw [e, hp]
  dsimp only
  constructor
  · intro h
    obtain ⟨a, b⟩ := h p hp
    refine ⟨a, fun x hx => ?_⟩
    obtain ⟨q, hq⟩ : ∃ q, (psM L m)[x]? = some q := ⟨_, List.getElem?_eq_getElem (show x < (psM L m).length by omega)⟩
    have e2 : pnT L m x = q.2.1 := by unfold pnT; rw [hq]
    rw [e2]
    exact b x q hx hq
  · intro ⟨a, b⟩ p' hp'
    rw [hp] at hp'
    cases hp'
    refine ⟨a, fun j q hj hq => ?_⟩
    have := b j hj
    unfold pnT at this
    rw [hq] at this
    exact this
/-- PARAMS -/
theorem lq_309p (O : ORD T b ks L) (P0 : PFm T N L) (hm : m < nMem L) {k36 : Nat → Int32 → Int32 → mjH → mjU} : ∀ (r i n : Nat) (s : mjSt3), i + r = (psM L m).length → r < n → SJ T N b ks L tr s → GR s → (gR0 s → PV T L b m i s) → ∃ s', L_309_139 (mjF (d + 4)) k36 n 97 (nI (16 * b + hmM L m)) (nI (400 * b + m)) (nI (6 * (400 * b + m) + i)) (mjW0 s) = k36 97 (nI (16 * b + hmM L m)) (nI (400 * b + (m + 1))) (mjW0 s') ∧ SJ T N b ks L tr s' ∧ GR s' ∧ (gR0 s' ↔ gR0 s ∧ ∀ x, i ≤ x → x < (psM L m).length → OKp T L tr m x) ∧ (gR0 s' → PV T L b m (psM L m).length s') ∧ oTy (bkP b) s s'
  | r, i, 0, s, e, hr, S, g, V => by omega
  | 0, i, n + 1, s, e, hr, S, g, V => by
    have J := S.1
    have hb := J.b1
    have m384 := J.n384
    have p6 := J.p6 hm
    refine ⟨s, ?_, S, g, ⟨fun x => ⟨x, fun y h1 h2 => by omega⟩, fun x => x.1⟩, fun x => by rw [show (psM L m).length = i by omega]; exact V x, offG.rf⟩
    rw [L309_139]
    unfold b_309_139 b_309_224
    rw [xg_97_39, wa_128 (by omega), p6.1, i6m, if_pos (nI_le (by omega) (by omega)), nI_1]
    rfl
  | r + 1, i, n + 1, s, e, hr, S, g, V => by
    have J := S.1
    have hb := J.b1
    have hn := J.2.2.2.2.2.1
    have m384 := J.n384
    have p6 := J.p6 hm
    have hi : i < (psM L m).length := by omega
    obtain ⟨M1, hc⟩ := J.mem hm
    obtain ⟨p, hp⟩ : ∃ p, (psM L m)[i]? = some p := ⟨_, List.getElem?_eq_getElem hi⟩
    have v133 : s.1 133 (6 * (400 * b + m) + i) = p.2.2 := (M1.2.2.1.2 i p hp).1
    obtain ⟨O1, O2, O3⟩ := O
    obtain ⟨ty1, ty2, ty3⟩ := (O1 m hm).2 i p hp
    have pf := (P0 m hm).2.2.2.2.2 i p hp
    rw [L309_139]
    unfold b_309_139 b_309_224
    rw [xg_97_39, wa_128 (by omega), p6.1, i6m, if_neg (nI_ge (by omega) (by omega)), xg_97_61]
    by_cases g0 : s.1 97 61 = 0
    · have hh : ∀ c, some (hmM L m) = some c → c < L.length := fun c e => by cases e; exact hc
      obtain ⟨s1, e1, o1, g1, j1, r1⟩ := x_313 (d := d) (h := some (hmM L m)) J S.2.1 S.2.2.1 S.2.2.2 hh ty1 pf.1 g
      have S1 := S.ty o1
      obtain ⟨s2, e2, o2, g2, j2⟩ := lq_309q (d := d + 3) hm hi (ci := nI (16 * b + hmM L m)) (k36 := k36) (k139 := L_309_139 (mjF (d + 4)) k36 n) i 0 mjN s1 (by omega) (by have := mjN_v; omega) S1.1 g1
      have S2 : SJ T N b ks L tr s2 := S1.ty (o61.Ty (P := fun _ => False) o2)
      have V2 : gR0 s2 → PV T L b m (i + 1) s2 := by
        intro x
        have x1 := (j2.mp x).1
        have V0 := V g0
        have V1 : PV T L b m (i + 1) s1 := by
          refine ⟨fun y hy => ?_, ?_, fun y hy => ?_, fun y hy => ?_⟩
          · have K := V0.1 y hy
            obtain ⟨N1, _⟩ := J.mem (show y < nMem L by omega)
            obtain ⟨q1, q2⟩ := O2 y m hy hm
            refine ⟨?_, fun j hj => ?_⟩
            · rw [o1.r (by decide) (by decide) (by decide)]
              have k1 := K.1
              rw [show s.1 126 (400 * b + y) = (mdM L y).2.2.2.2.2.2.2 from N1.1.2.1] at k1 ⊢
              exact keepT J ty1 (O1 y (by omega)).1 (by omega) o1 k1
            · rw [o1.r (by decide) (by decide) (by decide)]
              obtain ⟨u, hu⟩ : ∃ u, (psM L y)[j]? = some u := ⟨_, List.getElem?_eq_getElem hj⟩
              have k2 := K.2 j hj
              rw [(N1.2.2.1.2 j u hu).1] at k2 ⊢
              have := q2 j u hu
              exact keepT J ty1 ((O1 y (by omega)).2 j u hu).1 (by omega) o1 k2
          · rw [o1.r (by decide) (by decide) (by decide)]
            have k1 := V0.2.1
            rw [show s.1 126 (400 * b + m) = (mdM L m).2.2.2.2.2.2.2 from M1.1.2.1] at k1 ⊢
            exact keepT J ty1 (O1 m hm).1 (by omega) o1 k1
          · by_cases e' : y = i
            · subst e'
              have k1 := r1 x1
              rw [o1.r (by decide) (by decide) (by decide), v133]
              unfold pyT
              rw [hp]
              exact k1
            · rw [o1.r (by decide) (by decide) (by decide)]
              obtain ⟨u, hu⟩ : ∃ u, (psM L m)[y]? = some u := ⟨_, List.getElem?_eq_getElem (show y < (psM L m).length by omega)⟩
              have k2 := V0.2.2.1 y (by omega)
              rw [(M1.2.2.1.2 y u hu).1] at k2 ⊢
              have := ty3 y u (by omega) hu
              exact keepT J ty1 ((O1 m hm).2 y u hu).1 (by omega) o1 k2
          · exact keepA J ty1 hy (fun z => ((O3 y hy z).1 m hm).2 i p hp) o1 (V0.2.2.2 y hy)
        exact V1.o61 o2 hn
      obtain ⟨s', b1, b2', b3, b4, b5, b6⟩ := lq_309p ⟨O1, O2, O3⟩ P0 hm (k36 := k36) r (i + 1) n s2 (by omega) (by omega) S2 g2 V2
      refine ⟨s', ?_, b2', b3, ?_, b5, (oTy.mono o1 (TyI.bk ty1 J.2.2.2.1 J.b1)).tr ((o61.Ty o2).tr b6)⟩
      · rw [if_pos g0, xg_97_44, wa_133 (by omega), v133, xV_97, show nI (16 * b + hmM L m) = cR b (some (hmM L m)) from rfl, e1, bN_s, i6, show nI (6 * (400 * b + m)) = nI (6 * (400 * b + m) + 0) from rfl, show cR b (some (hmM L m)) = nI (16 * b + hmM L m) from rfl, e2]
        exact b1
      · rw [b4, j2, j1]
        have io := OKp_iff (T := T) (L := L) (tr := tr) hi
        rw [hp] at io
        dsimp only at io
        constructor
        · intro ⟨⟨⟨x1, x2⟩, x3⟩, x4⟩
          refine ⟨x1, fun y h1 h2 => ?_⟩
          by_cases e' : y = i
          · rw [e']; exact io.mpr ⟨x2, fun x hx => x3 x (Nat.zero_le _) hx⟩
          · exact x4 y (by omega) h2
        · intro ⟨x1, x2⟩
          obtain ⟨y1, y2⟩ := io.mp (x2 i (Nat.le_refl _) hi)
          exact ⟨⟨⟨x1, y1⟩, fun x _ hx => y2 x hx⟩, fun y h1 h2 => x2 y (by omega) h2⟩
    · rw [if_neg g0]
      refine ⟨s, ?_, S, g, ⟨fun x => absurd x g0, fun x => absurd x.1 g0⟩, fun x => absurd x g0, offG.rf⟩
      rw [nI_1]
      rfl
end MJA77
end
section
/-! ===== the reference's judge: judgeMembers, all of it ===== -/
def QV (T : TT) (L : List CD) (b m : Nat) (s : mjSt3) : Prop := (∀ x, x < m → TMr T L b s x) ∧ ∀ x, x < L.length → ABr T L b s x
section MJA78
variable {T : TT} {d N b k t c n m : Nat} {ks : List Nat} {L : List CD} {s s' : mjSt3} {tr : Bool}
theorem QV.o61 (V : QV T L b m s) (o : o61 s s') (hn : HN T N L) : QV T L b m s' := ⟨fun x hx => (V.1 x hx).o61 o hn, fun x hx => (V.2 x hx).o61 o⟩
theorem i4m (b c : Nat) : nI c + (400 : Int32) * nI b = nI (400 * b + c) := by rw [show (400 : Int32) = nI 400 from rfl, nI_mul, nI_ad, Nat.add_comm]
theorem RJ.mn (J : RJ T N b ks L s) (hm : m < nMem L) : s.2.1 132 (400 * b + m) = nkM T L m := (J.mem hm).1.1.2.2.2
theorem lq_309k (hm : m < nMem L) {ci : Int32} {k36 : Nat → Int32 → Int32 → mjH → mjU} : ∀ (r x n : Nat) (s : mjSt3), x + r = m → r < n → RJ T N b ks L s → GR s → ∃ s', L_309_96 (mjF (d + 1)) k36 n 97 ci (nI (400 * b + m)) (nI (400 * b + x)) (mjW0 s) = L_309_139 (mjF (d + 1)) k36 mjN 97 ci (nI (400 * b + m)) (nI (6 * (400 * b + m) + 0)) (mjW0 s') ∧ o61 s s' ∧ GR s' ∧ (gR0 s' ↔ gR0 s ∧ ∀ y, x ≤ y → y < m → ¬ nkM T L y = nkM T L m)
  | r, x, 0, s, e, hr, J, g => by omega
  | 0, x, n + 1, s, e, hr, J, g => by
    refine ⟨s, ?_, offG.rf, g, ⟨fun q => ⟨q, fun y h1 h2 => by omega⟩, fun q => q.1⟩⟩
    rw [L309_96]
    unfold b_309_96
    rw [if_pos (show nI (400 * b + m) ≤ nI (400 * b + x) by rw [show m = x by omega]; exact Int32.le_refl _), i6]
    rfl
  | r + 1, x, n + 1, s, e, hr, J, g => by
    have hb := J.b1
    have m384 := J.n384
    rw [L309_96]
    unfold b_309_96 b_309_128
    rw [if_neg (show ¬ nI (400 * b + m) ≤ nI (400 * b + x) from nI_ge (by omega) (by omega)), xg_97_43, wa_132 (by omega), J.mn (show x < nMem L by omega), xg_97_43, wa_132 (by omega), J.mn hm, nI_1, show 400 * b + x + 1 = 400 * b + (x + 1) by omega]
    by_cases q : nkM T L x = nkM T L m
    · rw [if_pos ((lg_cmp_eq _ _).mpr q), xg_97_38, wa_127 (by omega), xV_97]
      obtain ⟨z, a1, a2, a3⟩ := x_268 (d := d) g (a := 4) (by decide) (s.1 127 (400 * b + m))
      rw [a1, bN_s]
      obtain ⟨s', b1, b2', b3, b4⟩ := lq_309k hm (ci := ci) (k36 := k36) r (x + 1) n z (by omega) (by omega) (o61.J a2 J) (Or.inr a3)
      exact ⟨s', b1, a2.tr b2', b3, ⟨fun y => absurd (b4.mp y).1 a3.ng, fun y => absurd q (y.2 x (Nat.le_refl _) (by omega))⟩⟩
    · rw [if_neg (fun y => q ((lg_cmp_eq _ _).mp y))]
      obtain ⟨s', b1, b2', b3, b4⟩ := lq_309k hm (ci := ci) (k36 := k36) r (x + 1) n s (by omega) (by omega) J g
      refine ⟨s', b1, b2', b3, b4.trans ⟨fun y => ⟨y.1, fun w h1 h2 => ?_⟩, fun y => ⟨y.1, fun w h1 h2 => y.2 w (by omega) h2⟩⟩⟩
      by_cases e' : w = x
      · rw [e']; exact q
      · exact y.2 w (by omega) h2
theorem omT_iff {i : Nat} (hi : i < mcL L c) : omT T L c (nkM T L (fmL L c + i)) = some (fmL L c + i) ↔ ∀ y, fmL L c ≤ y → y < fmL L c + i → ¬ nkM T L y = nkM T L (fmL L c + i) := by
  unfold omT
  constructor
  · intro h y h1 h2 e
    cases hf : fnd (fun j => decide (nkM T L (fmL L c + j) = nkM T L (fmL L c + i))) (mcL L c) with
    | none => rw [hf] at h; cases h
    | some j =>
      rw [hf] at h
      have h' : fmL L c + j = fmL L c + i := by simpa using h
      obtain ⟨f1, f2, f3⟩ := fnd_some.mp hf
      have := f3 (y - fmL L c) (by omega)
      rw [show fmL L c + (y - fmL L c) = y by omega] at this
      exact of_decide_eq_false this e
  · intro h
    have hf : fnd (fun j => decide (nkM T L (fmL L c + j) = nkM T L (fmL L c + i))) (mcL L c) = some i := fnd_some.mpr ⟨hi, decide_eq_true rfl, fun j hj => decide_eq_false (h (fmL L c + j) (by omega) (by omega))⟩
    rw [hf]
theorem lq_309 (O : ORD T b ks L) (P0 : PFm T N L) (hc : c < L.length) : ∀ (r i n : Nat) (s : mjSt3), i + r = mcL L c → r < n → SJ T N b ks L tr s → GR s → (gR0 s → QV T L b (fmL L c + i) s) → ∃ s', L_309_36 (mjF (d + 4)) n 97 (nI (16 * b + c)) (nI (400 * b + (fmL L c + i))) (mjW0 s) = some (none, mjW0 s') ∧ SJ T N b ks L tr s' ∧ GR s' ∧ (gR0 s' ↔ gR0 s ∧ ∀ x, i ≤ x → x < mcL L c → OKm T L tr (fmL L c + x)) ∧ (gR0 s' → QV T L b (fmL L c + mcL L c) s') ∧ oTy (bkP b) s s'
  | r, i, 0, s, e, hr, S, g, V => by omega
  | 0, i, n + 1, s, e, hr, S, g, V => by
    have J := S.1
    have hb := J.b1
    have h16 := J.len
    have m384 := J.n384
    obtain ⟨E, hE⟩ : ∃ E, L[c]? = some E := ⟨_, List.getElem?_eq_getElem hc⟩
    have mc : mcL L c = E.2.length := by unfold mcL; rw [hE]
    have tk := nMem_take hE
    have v107 : s.1 107 (16 * b + c) = nI (fmL L c) := (J.hd hc).2.2.2.2.2.2.1
    have v108 : s.1 108 (16 * b + c) = nI (mcL L c) := by rw [mc]; exact (J.2.1.2.2 c E hE).2.1
    refine ⟨s, ?_, S, g, ⟨fun x => ⟨x, fun y h1 h2 => by omega⟩, fun x => x.1⟩, fun x => by rw [show mcL L c = i by omega]; exact V x, offG.rf⟩
    rw [L309_36]
    unfold b_309_36
    rw [xg_97_18, wa_107 (by omega), v107, xg_97_63, J.1.2, xg_97_19, wa_108 (by omega), v108, i4m, nI_ad, if_pos (nI_le (by omega) (by unfold fmL at *; omega))]
  | r + 1, i, n + 1, s, e, hr, S, g, V => by
    have J := S.1
    have hb := J.b1
    have h16 := J.len
    have hn := J.2.2.2.2.2.1
    have m384 := J.n384
    obtain ⟨E, hE⟩ : ∃ E, L[c]? = some E := ⟨_, List.getElem?_eq_getElem hc⟩
    have mc : mcL L c = E.2.length := by unfold mcL; rw [hE]
    have tk : fmL L c + E.2.length ≤ nMem L := nMem_take hE
    have v107 : s.1 107 (16 * b + c) = nI (fmL L c) := (J.hd hc).2.2.2.2.2.2.1
    have v108 : s.1 108 (16 * b + c) = nI (mcL L c) := by rw [mc]; exact (J.2.1.2.2 c E hE).2.1
    obtain ⟨m, em⟩ : ∃ m, m = fmL L c + i := ⟨_, rfl⟩
    have hm : m < nMem L := by omega
    have hma : hmM L m = c := by rw [em]; exact hm_at hc (by omega)
    obtain ⟨M1, _⟩ := J.mem hm
    have v126 : s.1 126 (400 * b + m) = (mdM L m).2.2.2.2.2.2.2 := M1.1.2.1
    obtain ⟨O1, O2, O3⟩ := O
    have ty1 := (O1 m hm).1
    have pf := P0 m hm
    rw [← em]
    rw [L309_36]
    unfold b_309_36
    rw [xg_97_18, wa_107 (by omega), v107, xg_97_63, J.1.2, xg_97_19, wa_108 (by omega), v108, i4m, nI_ad, if_neg (nI_ge (by omega) (by omega)), xg_97_61]
    by_cases g0 : s.1 97 61 = 0
    · have hh : ∀ x, some c = some x → x < L.length := fun x e => by cases e; exact hc
      obtain ⟨s1, e1, o1, g1, j1, r1⟩ := x_313 (d := d) (h := some c) J S.2.1 S.2.2.1 S.2.2.2 hh ty1 pf.1 g
      have S1 := S.ty o1
      have v107' : s1.1 107 (16 * b + c) = nI (fmL L c) := (S1.1.hd hc).2.2.2.2.2.2.1
      obtain ⟨s2, e2, o2, g2, j2⟩ := lq_309k (d := d + 3) hm (ci := nI (16 * b + c)) (k36 := L_309_36 (mjF (d + 4)) n) i (fmL L c) mjN s1 (by omega) (by have := mjN_v; omega) S1.1 g1
      have S2 : SJ T N b ks L tr s2 := S1.ty (o61.Ty (P := fun _ => False) o2)
      have V2 : gR0 s2 → PV T L b m 0 s2 := by
        intro x
        have x1 := (j2.mp x).1
        have V0 := V g0
        rw [← em] at V0
        have V1 : PV T L b m 0 s1 := by
          refine ⟨fun y hy => ?_, ?_, fun y hy => by omega, fun y hy => ?_⟩
          · have K := V0.1 y hy
            obtain ⟨N1, _⟩ := J.mem (show y < nMem L by omega)
            obtain ⟨q1, q2⟩ := O2 y m hy hm
            refine ⟨?_, fun j hj => ?_⟩
            · rw [o1.r (by decide) (by decide) (by decide)]
              have k1 := K.1
              rw [show s.1 126 (400 * b + y) = (mdM L y).2.2.2.2.2.2.2 from N1.1.2.1] at k1 ⊢
              exact keepT J ty1 (O1 y (by omega)).1 (by omega) o1 k1
            · rw [o1.r (by decide) (by decide) (by decide)]
              obtain ⟨u, hu⟩ : ∃ u, (psM L y)[j]? = some u := ⟨_, List.getElem?_eq_getElem hj⟩
              have k2 := K.2 j hj
              rw [(N1.2.2.1.2 j u hu).1] at k2 ⊢
              have := q2 j u hu
              exact keepT J ty1 ((O1 y (by omega)).2 j u hu).1 (by omega) o1 k2
          · have k1 := r1 x1
            rw [o1.r (by decide) (by decide) (by decide), v126]
            unfold tyM
            rw [hma]
            exact k1
          · exact keepA J ty1 hy (fun z => ((O3 y hy z).1 m hm).1) o1 (V0.2 y hy)
        exact V1.o61 o2 hn
      have p6 := (J.p6 hm).2
      obtain ⟨s3, e3, S3, g3, j3, V3, o3⟩ := lq_309p (d := d) (tr := tr) ⟨O1, O2, O3⟩ P0 hm (k36 := L_309_36 (mjF (d + 4)) n) (psM L m).length 0 mjN s2 (by omega) (by have := mjN_v; omega) S2 g2 V2
      rw [hma] at e3
      obtain ⟨s', b1, b2', b3, b4, b5, b6⟩ := lq_309 ⟨O1, O2, O3⟩ P0 hc r (i + 1) n s3 (by omega) (by omega) S3 g3 (fun x => by
        have V4 := V3 x
        refine ⟨fun y hy => ?_, V4.2.2.2⟩
        by_cases e' : y = m
        · rw [e']; exact ⟨V4.2.1, V4.2.2.1⟩
        · exact V4.1 y (by omega))
      refine ⟨s', ?_, b2', b3, ?_, b5, (oTy.mono o1 (TyI.bk ty1 J.2.2.2.1 J.b1)).tr ((o61.Ty o2).tr (o3.tr b6))⟩
      · rw [if_pos g0, xg_97_37, wa_126 (by omega), v126, xV_97, show nI (16 * b + c) = cR b (some c) from rfl, e1, bN_s, show cR b (some c) = nI (16 * b + c) from rfl, xg_97_18, wa_107 (by omega), v107', xg_97_63, S1.1.1.2, i4m, e2, e3, em]
        exact b1
      · rw [b4, j3, j2, j1]
        have om := omT_iff (T := T) (L := L) (c := c) (show i < mcL L c by omega)
        rw [← em] at om
        have ok : OKm T L tr m ↔ tyOK T L tr (some c) (mdM L m).1 ∧ (∀ y, fmL L c ≤ y → y < m → ¬ nkM T L y = nkM T L m) ∧ ∀ x, x < (psM L m).length → OKp T L tr m x := by
          unfold OKm
          rw [hma, om]
        constructor
        · intro ⟨⟨⟨⟨x1, x2⟩, x3⟩, x4⟩, x5⟩
          refine ⟨x1, fun y h1 h2 => ?_⟩
          by_cases e' : y = i
          · rw [e', ← em]; exact ok.mpr ⟨x2, x3, fun x hx => x4 x (Nat.zero_le _) hx⟩
          · exact x5 y (by omega) h2
        · intro ⟨x1, x2⟩
          have y0 := x2 i (Nat.le_refl _) (by omega)
          rw [← em] at y0
          obtain ⟨y1, y2, y3⟩ := ok.mp y0
          exact ⟨⟨⟨⟨x1, y1⟩, y2⟩, fun x _ hx => y3 x hx⟩, fun y h1 h2 => x2 y (by omega) h2⟩
    · rw [if_neg g0]
      exact ⟨s, rfl, S, g, ⟨fun x => absurd x g0, fun x => absurd x.1 g0⟩, fun x => absurd x g0, offG.rf⟩
/-- judgeMembers -/
theorem x_309 (O : ORD T b ks L) (P0 : PFm T N L) (hc : c < L.length) (S : SJ T N b ks L tr s) (g : gR0 s) (V : QV T L b (fmL L c) s) : ∃ s', mjF (d + 5) 309 [.ref 97, .int (nI (16 * b + c))] (mjW0 s) = some (none, mjW0 s') ∧ SJ T N b ks L tr s' ∧ GR s' ∧ (gR0 s' ↔ OKd T L tr c) ∧ (gR0 s' → QV T L b (fmL L c + mcL L c) s') ∧ oTy (bkP b) s s' := by
  have J := S.1
  have hb := J.b1
  have h16 := J.len
  have hn := J.2.2.2.2.2.1
  have m24 : mcL L c ≤ 24 := by
    obtain ⟨E, hE⟩ : ∃ E, L[c]? = some E := ⟨_, List.getElem?_eq_getElem hc⟩
    unfold mcL
    rw [hE]
    exact J.2.2.2.2.1 c E hE
  -- the MEMBERS
  have rest : ∀ z, o61 s z → GR z → mjF (d + 5) 309 [.ref 97, .int (nI (16 * b + c))] (mjW0 s) = b_309_20 (mjF (d + 4)) 97 (nI (16 * b + c)) (mjW0 z) → (gR0 z ↔ ∀ k, abT T L c = some k → (tr || nsT T L (some c) k) = true) → ∃ s', mjF (d + 5) 309 [.ref 97, .int (nI (16 * b + c))] (mjW0 s) = some (none, mjW0 s') ∧ SJ T N b ks L tr s' ∧ GR s' ∧ (gR0 s' ↔ OKd T L tr c) ∧ (gR0 s' → QV T L b (fmL L c + mcL L c) s') ∧ oTy (bkP b) s s' := by
    intro z oz gz pre iz
    have Sz : SJ T N b ks L tr z := S.ty (o61.Ty (P := fun _ => False) oz)
    have v107 : z.1 107 (16 * b + c) = nI (fmL L c) := (Sz.1.hd hc).2.2.2.2.2.2.1
    obtain ⟨s', b1, b2', b3, b4, b5, b6⟩ := lq_309 (d := d) O P0 hc (mcL L c) 0 mjN z (by omega) (by have := mjN_v; omega) Sz gz (fun _ => V.o61 oz hn)
    refine ⟨s', ?_, b2', b3, ?_, b5, (o61.Ty oz).tr b6⟩
    · rw [pre]
      unfold b_309_20
      rw [xg_97_18, wa_107 (by omega), v107, xg_97_63, Sz.1.1.2, i4m]
      exact b1
    · rw [b4, iz]
      exact ⟨fun x => ⟨x.1, fun i hi => x.2 i (Nat.zero_le _) hi⟩, fun x => ⟨x.1, fun i _ hi => x.2 i hi⟩⟩
  have A := V.2 c hc
  unfold ABr at A
  cases ha : abT T L c with
  | none =>
    rw [ha] at A
    have A' : s.1 105 (16 * b + c) = -1 := A
    refine rest s offG.rf (Or.inl g) ?_ ⟨fun _ k hk => (by rw [ha] at hk; cases hk), fun _ => g⟩
    rw [e_309]
    unfold f_309 b_309_0
    rw [xg_97_16, wa_105 (by omega), A', if_pos (by decide)]
  | some kk =>
    rw [ha] at A
    obtain ⟨v, k, k1, k2, k3, k4⟩ := A
    obtain ⟨z, a1, a2, a3, a4⟩ := x_310 (d := d + 1) (h := some c) J S.2.1 S.2.2.1 S.2.2.2 (fun x e => by cases e; exact hc) k1 v (Or.inl g) (fun _ => ⟨k4, k3⟩) (fun e => by cases e)
    refine rest z a2 a3 ?_ ?_
    · rw [e_309]
      unfold f_309 b_309_0
      rw [xg_97_16, wa_105 (by omega), k2, if_neg (nI_pos (by omega)), xg_97_16, wa_105 (by omega), k2, xV_97, show nI (16 * b + c) = cR b (some c) from rfl, a1, bN_s]
    · rw [a4]
      exact ⟨fun x k' hk => by rw [ha] at hk; cases hk; exact x.2, fun x => ⟨g, x kk ha⟩⟩
end MJA78
end
