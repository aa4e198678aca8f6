/-! ===== the class reads STATEMENTS and BLOCKS so: all together ===== -/
section MJ51
variable {T : TT} {d N c : Nat} {s : mjSt3} {f p o v : Int32} {ag : Nat → Int32}
theorem pGrd_inr {M o c td kq i0 : Nat} {bl : Nat → Nat → Nat → Nat → PY} {yz : PZ × PB} (h : pGrd T M bl o c td kq i0 = .inr yz) : (T (c + 1)).1 = 40 ∧ ¬ o = 12 ∧ prV T M (o + 1) (c + 2) kq = .inr yz.1 ∧ (T yz.1.1).1 = 41 ∧ bl (yz.1.1 + 1) td (kq + yz.1.2.2.1.length) (i0 + yz.1.2.2.2.1.length + 1) = .inr yz.2 := by
  unfold pGrd at h
  by_cases h40 : (T (c + 1)).1 = 40
  · rw [if_pos h40] at h
    by_cases h12 : o = 12
    · rw [if_pos h12] at h; cases h
    · rw [if_neg h12] at h
      cases hd : prV T M (o + 1) (c + 2) kq with
      | inl e => rw [hd] at h; cases h
      | inr y =>
        rw [hd] at h
        by_cases h41 : (T y.1).1 = 41
        · simp only [if_pos h41] at h
          cases hd2 : bl (y.1 + 1) td (kq + y.2.2.1.length) (i0 + y.2.2.2.1.length + 1) with
          | inl e => rw [hd2] at h; cases h
          | inr z =>
            rw [hd2] at h
            cases h
            exact ⟨h40, h12, rfl, h41, hd2⟩
        · simp only [if_neg h41] at h
          cases h
  · rw [if_neg h40] at h; cases h
theorem prS_16 {M : Nat} : ∀ (f tag o c td kq i0 : Nat) (y : PB), td ≤ 16 → prS T M f tag o c td kq i0 = .inr y → y.2.1 ≤ 16
  | 0, _, _, _, _, _, _, _, _, h => by cases h
  | f + 1, 0, o, c, td, kq, i0, y, ht, h => by
    have ih := prS_16 (M := M) f
    rw [prS_0] at h
    unfold pBlk at h
    by_cases h123 : (T c).1 = 123
    · rw [if_pos h123] at h
      by_cases h12 : o = 12
      · rw [if_pos h12] at h; cases h
      · rw [if_neg h12] at h
        cases hd : pSeq T (prS T M f 1 (o + 1)) kq i0 M (c + 1, td, [], [(26, (T (c + 1)).2.1, 0, 0, 0)], []) with
        | inl e => rw [hd] at h; cases h
        | inr z =>
          rw [hd] at h
          have hz := pSeq_16 (fun c td kq i0 y h1 h2 => ih 1 (o + 1) c td kq i0 y h1 h2) M _ z ht hd
          by_cases g : (T z.1).1 = 125
          · simp only [if_pos g] at h
            cases h
            exact hz
          · simp only [if_neg g] at h
            cases h
    · rw [if_neg h123] at h; cases h
  | f + 1, tag + 1, o, c, td, kq, i0, y, ht, h => by
    have ih := prS_16 (M := M) f
    have h' : prS T M (f + 1) 1 o c td kq i0 = .inr y := h
    rw [prS_1] at h'
    by_cases g1 : (T c).1 = 2 ∨ (T c).1 = 10
    · rw [if_pos g1] at h'
      unfold pDecl at h'
      cases hd : pType T c with
      | inl e => rw [hd] at h'; cases h'
      | inr c1 =>
        rw [hd] at h'
        by_cases a3 : (T c1).1 = 3
        · simp only [if_pos a3] at h'
          by_cases a16 : td = 16
          · simp only [if_pos a16] at h'; cases h'
          · simp only [if_neg a16] at h'
            by_cases a61 : (T (c1 + 1)).1 = 61
            · simp only [if_pos a61] at h'
              generalize kq + (if (T c).1 = 10 then 0 else 1) = kq' at h'
              cases hv : prV T M o (c1 + 2) kq' with
              | inl e => rw [hv] at h'; cases h'
              | inr w =>
                rw [hv] at h'
                by_cases a59 : (T w.1).1 = 59
                · simp only [if_pos a59] at h'
                  cases h'
                  show td + 1 ≤ 16
                  omega
                · simp only [if_neg a59] at h'; cases h'
            · simp only [if_neg a61] at h'; cases h'
        · simp only [if_neg a3] at h'; cases h'
    rw [if_neg g1] at h'
    by_cases g2 : (T c).1 = 15
    · rw [if_pos g2] at h'
      unfold pIf at h'
      cases hd : pGrd T M (prS T M f 0 o) o c td kq (i0 + 1) with
      | inl e => rw [hd] at h'; cases h'
      | inr yz =>
        rw [hd] at h'
        have g := pGrd_inr hd
        have hz := ih 0 o _ td _ _ yz.2 ht g.2.2.2.2
        by_cases a16 : (T yz.2.1).1 = 16
        · simp only [if_pos a16] at h'
          cases hw : prS T M f 0 o (yz.2.1 + 1) yz.2.2.1 (kq + yz.1.2.2.1.length + yz.2.2.2.1.length) (i0 + 3 + yz.1.2.2.2.1.length + yz.2.2.2.2.1.length) with
          | inl e => rw [hw] at h'; cases h'
          | inr w =>
            rw [hw] at h'
            cases h'
            exact ih 0 o _ _ _ _ w hz hw
        · simp only [if_neg a16] at h'
          cases h'
          exact hz
    rw [if_neg g2] at h'
    by_cases g3 : (T c).1 = 17
    · rw [if_pos g3] at h'
      unfold pWhile at h'
      cases hd : pGrd T M (prS T M f 0 o) o c td kq (i0 + 2) with
      | inl e => rw [hd] at h'; cases h'
      | inr yz =>
        rw [hd] at h'
        have g := pGrd_inr hd
        have hz := ih 0 o _ td _ _ yz.2 ht g.2.2.2.2
        cases h'
        exact hz
    rw [if_neg g3] at h'
    have give : ∀ w : Int32, pGive T M o c td kq w = .inr y → y.2.1 ≤ 16 := by
      intro w h'
      unfold pGive at h'
      cases hv : prV T M o (c + 1) kq with
      | inl e => rw [hv] at h'; cases h'
      | inr x =>
        rw [hv] at h'
        by_cases a59 : (T x.1).1 = 59
        · simp only [if_pos a59] at h'
          cases h'
          exact ht
        · simp only [if_neg a59] at h'; cases h'
    by_cases g4 : (T c).1 = 18
    · rw [if_pos g4] at h'
      exact give _ h'
    rw [if_neg g4] at h'
    by_cases g5 : (T c).1 = 19
    · rw [if_pos g5] at h'
      exact give _ h'
    rw [if_neg g5] at h'
    by_cases g6 : (T c).1 = 123
    · rw [if_pos g6] at h'
      exact ih 0 o c td kq i0 y ht h'
    rw [if_neg g6] at h'
    unfold pUse at h'
    cases hv : prV T M o c kq with
    | inl e => rw [hv] at h'; cases h'
    | inr x =>
      rw [hv] at h'
      by_cases a : (T x.1).1 = 61 ∧ (x.2.1 = 1 ∨ x.2.1 = 2)
      · simp only [if_pos a] at h'
        cases hw : prV T M o (x.1 + 1) (kq + x.2.2.1.length) with
        | inl e => rw [hw] at h'; cases h'
        | inr w =>
          rw [hw] at h'
          by_cases a59 : (T w.1).1 = 59
          · simp only [if_pos a59] at h'
            cases h'
            exact ht
          · simp only [if_neg a59] at h'; cases h'
      · simp only [if_neg a] at h'
        by_cases b : (T x.1).1 = 59 ∧ x.2.1 = 3
        · simp only [if_pos b] at h'
          cases h'
          exact ht
        · simp only [if_neg b] at h'; cases h'
/-- BLOCK and STATEMENT, by fuel -/
def rdS (T : TT) (N : Nat) (s : mjSt3) (f : Nat) : Prop := ∀ (D q c td kq i0 : Nat) (p : Int32) (ag : Nat → Int32), 2 * f + 130 ≤ D → q ≤ 12 → c ≤ N → td ≤ 16 →
  (2 * (12 - q) + 1 ≤ f → sOK s T N (mjF D 139 [.ref 64] (mjW0 (eR s (c, 0, p, nI q, nI td, ag)))) p q ag (prS T (N + 1) f 0 q c td kq i0)) ∧
  (2 * (12 - q) + 2 ≤ f → sOK s T N (mjF D 140 [.ref 64] (mjW0 (eR s (c, 0, p, nI q, nI td, ag)))) p q ag (prS T (N + 1) f 1 q c td kq i0))
theorem rdS_ok (hT : TH T N s) : ∀ f, rdS T N s f
  | 0 => by
    intro D q c td kq i0 p ag hD hq hc ht
    refine ⟨fun h => ?_, fun h => ?_⟩ <;> omega
  | f + 1 => by
    have ih := rdS_ok hT f
    intro D q c td kq i0 p ag hD hq hc ht
    obtain ⟨D, rfl⟩ : ∃ e, D = e + 132 := ⟨D - 132, by omega⟩
    refine ⟨fun h => ?_, fun h => ?_⟩
    · -- BLOCK
      rw [e_139]
      unfold f_139 b_139_0
      rw [xV_64, prS_0, show mjN = 99999999 + 1 from rfl]
      unfold pBlk
      by_cases h123 : (T c).1 = 123
      · have hl := lt_of hT hc h123 (by decide)
        rw [if_pos h123]
        by_cases h12 : q = 12
        · subst h12
          rw [if_pos rfl, u_open3 hT hc h123 (by decide), bN_s, n_blk8 hT (by decide)]
          exact ⟨Or.inr (Or.inr rfl), _, _, _, rfl⟩
        · rw [if_neg h12, u_open hT hc h123 (by decide) (by omega), bN_s]
          exact lq_139 (p := p) (ag := ag) hT (D := D + 131) (q := q) (by omega) (fun c' td' kq' i0' ag' hc' ht' => (ih (D + 131) (q + 1) c' td' kq' i0' p ag' (by omega) (by omega) hc' ht').2 (by omega)) (fun c td kq i0 y h1 h2 => prS_16 f 1 (q + 1) c td kq i0 y h1 h2) (N + 1) 0 (99999999 + 1) (c + 1, td, [], [(26, (T (c + 1)).2.1, 0, 0, 0)], []) (by omega) (by have := hT.2.1; omega) hl ht
      · rw [if_neg h123, u_open2 hT hc h123, bN_s, n_blk8 hT (F2_n0 T _)]
        exact ⟨F2_in T _, _, _, _, rfl⟩
    · -- STATEMENT
      have hblk : ∀ (td : Nat), td ≤ 16 → ∀ (c kq i0 : Nat) (ag : Nat → Int32), c ≤ N → sOK s T N (mjF (D + 131) 139 [.ref 64] (mjW0 (eR s (c, 0, p, nI q, nI td, ag)))) p q ag (prS T (N + 1) f 0 q c td kq i0) :=
        fun td ht c kq i0 ag hc => (ih (D + 131) q c td kq i0 p ag (by omega) hq hc ht).1 (by omega)
      have hblk2 : ∀ (c kq i0 : Nat) (ag : Nat → Int32), c ≤ N → sOK s T N (mjF (D + 130) 139 [.ref 64] (mjW0 (eR s (c, 0, p, nI q, nI td, ag)))) p q ag (prS T (N + 1) f 0 q c td kq i0) :=
        fun c kq i0 ag hc => (ih (D + 130) q c td kq i0 p ag (by omega) hq hc ht).1 (by omega)
      rw [e_140]
      unfold f_140 b_140_0
      rw [xg_64_0, xV_58, u_kind hT hc, bI_s, prS_1]
      have decl : (T c).1 = 2 ∨ (T c).1 = 10 → sOK s T N (b_140_116 (mjF (D + 131)) 64 (mjW0 (eR s (c, 0, p, nI q, nI td, ag)))) p q ag (pDecl T (N + 1) q c td kq) := by
        intro hk
        unfold b_140_116 pDecl
        rw [xV_64]
        have tl : ∀ (e : Nat × Nat), bOK s T N (mjF (D + 131) 150 [.ref 64] (mjW0 (eR s (c, 0, p, nI q, nI td, ag)))) e → bOK s T N (bN (mjF (D + 131) 150 [.ref 64] (mjW0 (eR s (c, 0, p, nI q, nI td, ag)))) fun hp1 => rV hp1 64 8 (bI (mjF (D + 131) 142 [.ref 64] hp1) fun v2 hp3 => gR hp3 64 8 0 fun v4 => rV hp3 v4 9 (bN (mjF (D + 131) 169 [.ref v4, .int 59] hp3) fun hp5 => some (none, hp5)))) e := by
          intro e hb
          obtain ⟨he, o', v', ag', hb⟩ := hb
          rw [hb, bN_s, xV_64, n_value hT (in_n0 he), bI_s, xg_64_0, xV_58, u_needN hT (in_n0 he), bN_s]
          exact ⟨he, _, _, _, rfl⟩
        cases hd : pType T c with
        | inl e => exact tl e (x_varT hT hc hd)
        | inr c1 =>
          by_cases a3 : (T c1).1 = 3
          · have h1 := x_var (d := D + 127) (p := p) (q := q) (ag := ag) hT hc ht hd a3
            simp only [if_pos a3]
            by_cases a16 : td = 16
            · simp only [if_pos a16]
              exact tl _ (h1.1 a16)
            · simp only [if_neg a16]
              by_cases a61 : (T (c1 + 1)).1 = 61
              · simp only [if_pos a61]
                obtain ⟨hl, h2⟩ := h1.2.1 a16 a61
                rw [h2, bN_s, xV_64]
                have h3 := x_val (p := p) (v := nI (td + 1)) (ag := ag) hT (D := D + 131) (q := q) (c := c1 + 2) (kq := kq + (if (T c).1 = 10 then 0 else 1)) (by omega) hq (by omega)
                cases hv : prV T (N + 1) q (c1 + 2) (kq + (if (T c).1 = 10 then 0 else 1)) with
                | inl e =>
                  rw [hv] at h3
                  obtain ⟨he, w, o', ag', h3⟩ := h3
                  rw [h3, bI_s, xg_64_0, xV_58, u_needN hT (in_n0 he), bN_s]
                  exact ⟨he, _, _, _, rfl⟩
                | inr y =>
                  rw [hv] at h3
                  obtain ⟨hy, h3⟩ := h3
                  rw [h3, bI_s, xg_64_0, xV_58]
                  by_cases a59 : (T y.1).1 = 59
                  · have hl2 := lt_of hT hy a59 (by decide)
                    rw [u_need hT hy a59 (by decide), bN_s]
                    simp only [if_pos a59]
                    exact ⟨hl2, rfl⟩
                  · rw [u_need2 hT hy a59, bN_s]
                    simp only [if_neg a59]
                    exact ⟨F2_in T _, _, _, _, rfl⟩
              · simp only [if_neg a61]
                exact tl _ (h1.2.2 a16 a61)
          · simp only [if_neg a3]
            exact tl _ (x_varN hT hc hd a3)
      by_cases k2 : (T c).1 = 2
      · rw [if_pos k2, if_pos (Or.inl k2)]
        exact decl (Or.inl k2)
      by_cases k10 : (T c).1 = 10
      · rw [if_neg k2, if_pos k10, if_pos (Or.inr k10)]
        exact decl (Or.inr k10)
      rw [if_neg k2, if_neg k10, if_neg (show ¬ ((T c).1 = 2 ∨ (T c).1 = 10) from fun z => z.elim k2 k10)]
      by_cases k15 : (T c).1 = 15
      · have hl := lt_of hT hc k15 (by decide)
        rw [if_pos k15, if_pos k15, xV_64]
        unfold pIf
        have h1 := x_grd (p := p) (ag := ag) (kq := kq) (i0 := i0 + 1) hT (D := D + 130) (by omega) hq hl hblk2
        cases hd : pGrd T (N + 1) (prS T (N + 1) f 0 q) q c td kq (i0 + 1) with
        | inl e =>
          rw [hd] at h1
          obtain ⟨he, o', v', ag', h1⟩ := h1
          rw [h1, bN_s, xg_64_0, xV_58, u_is hT (Nat.le_refl N), bI_s, i01, if_neg (kN hT (by decide))]
          exact ⟨he, _, _, _, rfl⟩
        | inr yz =>
          have hz16 := prS_16 f 0 q _ td _ _ yz.2 ht (pGrd_inr hd).2.2.2.2
          rw [hd] at h1
          obtain ⟨hy, h1⟩ := h1
          rw [h1, bN_s, xg_64_0, xV_58, u_is hT hy, bI_s, i01]
          by_cases a16 : (T yz.2.1).1 = 16
          · have hl2 := lt_of hT hy a16 (by decide)
            rw [if_pos a16, xg_64_0, xV_58, u_skip hT hl2, bN_s, xV_64]
            simp only [if_pos a16]
            have h2 := hblk yz.2.2.1 hz16 (yz.2.1 + 1) (kq + yz.1.2.2.1.length + yz.2.2.2.1.length) (i0 + 3 + yz.1.2.2.2.1.length + yz.2.2.2.2.1.length) (rAg (yz.1.2.2.2.2 ++ yz.2.2.2.2.2) ag) hl2
            cases hw : prS T (N + 1) f 0 q (yz.2.1 + 1) yz.2.2.1 (kq + yz.1.2.2.1.length + yz.2.2.2.1.length) (i0 + 3 + yz.1.2.2.2.1.length + yz.2.2.2.2.1.length) with
            | inl e =>
              rw [hw] at h2
              obtain ⟨he, o', v', ag', h2⟩ := h2
              rw [h2, bN_s]
              exact ⟨he, _, _, _, rfl⟩
            | inr w =>
              rw [hw] at h2
              obtain ⟨hw', h2⟩ := h2
              rw [h2, bN_s, ← rAg_app]
              exact ⟨hw', rfl⟩
          · rw [if_neg a16]
            simp only [if_neg a16]
            exact ⟨hy, rfl⟩
      rw [if_neg k15, if_neg k15]
      by_cases k17 : (T c).1 = 17
      · have hl := lt_of hT hc k17 (by decide)
        rw [if_pos k17, if_pos k17, xV_64]
        unfold pWhile
        have h1 := x_grd (p := p) (ag := ag) (kq := kq) (i0 := i0 + 2) hT (D := D + 130) (by omega) hq hl hblk2
        cases hd : pGrd T (N + 1) (prS T (N + 1) f 0 q) q c td kq (i0 + 2) with
        | inl e =>
          rw [hd] at h1
          obtain ⟨he, o', v', ag', h1⟩ := h1
          rw [h1, bN_s]
          exact ⟨he, _, _, _, rfl⟩
        | inr yz =>
          rw [hd] at h1
          obtain ⟨hy, h1⟩ := h1
          rw [h1, bN_s]
          exact ⟨hy, rfl⟩
      rw [if_neg k17, if_neg k17]
      have give : ∀ w : Int32, c < N → sOK s T N (b_140_137 (mjF (D + 131)) 64 (mjW0 (eR s (c, 0, p, nI q, nI td, ag)))) p q ag (pGive T (N + 1) q c td kq w) := by
        intro w hl
        unfold b_140_137 pGive
        rw [xg_64_0, xV_58, u_skip hT hl, bN_s, xV_64]
        have h1 := x_val (p := p) (v := nI td) (ag := ag) hT (D := D + 131) (q := q) (c := c + 1) (kq := kq) (by omega) hq hl
        cases hv : prV T (N + 1) q (c + 1) kq with
        | inl e =>
          rw [hv] at h1
          obtain ⟨he, w, o', ag', h1⟩ := h1
          rw [h1, bI_s, xg_64_0, xV_58, u_needN hT (in_n0 he), bN_s]
          exact ⟨he, _, _, _, rfl⟩
        | inr y =>
          rw [hv] at h1
          obtain ⟨hy, h1⟩ := h1
          rw [h1, bI_s, xg_64_0, xV_58]
          by_cases a59 : (T y.1).1 = 59
          · have hl2 := lt_of hT hy a59 (by decide)
            rw [u_need hT hy a59 (by decide), bN_s]
            simp only [if_pos a59]
            exact ⟨hl2, rfl⟩
          · rw [u_need2 hT hy a59, bN_s]
            simp only [if_neg a59]
            exact ⟨F2_in T _, _, _, _, rfl⟩
      by_cases k18 : (T c).1 = 18
      · rw [if_pos k18, if_pos k18]
        exact give _ (lt_of hT hc k18 (by decide))
      rw [if_neg k18, if_neg k18]
      by_cases k19 : (T c).1 = 19
      · rw [if_pos k19, if_pos k19]
        exact give _ (lt_of hT hc k19 (by decide))
      rw [if_neg k19, if_neg k19]
      by_cases k123 : (T c).1 = 123
      · rw [if_pos k123, if_pos k123, xV_64]
        have h2 := hblk td ht c kq i0 ag hc
        cases hw : prS T (N + 1) f 0 q c td kq i0 with
        | inl e =>
          rw [hw] at h2
          obtain ⟨he, o', v', ag', h2⟩ := h2
          rw [h2, bN_s]
          exact ⟨he, _, _, _, rfl⟩
        | inr w =>
          rw [hw] at h2
          obtain ⟨hw', h2⟩ := h2
          rw [h2, bN_s]
          exact ⟨hw', rfl⟩
      rw [if_neg k123, if_neg k123, xV_64]
      unfold pUse b_140_177
      have h1 := x_val (p := p) (v := nI td) (ag := ag) hT (D := D + 131) (q := q) (c := c) (kq := kq) (by omega) hq hc
      cases hv : prV T (N + 1) q c kq with
      | inl e =>
        rw [hv] at h1
        obtain ⟨he, w, o', ag', h1⟩ := h1
        rw [h1, bI_s, xV_64, x_setN hT (in_n0 he), bI_s, if_pos rfl, xg_64_0, xV_58, u_needN hT (in_n0 he), bN_s]
        exact ⟨he, _, _, _, rfl⟩
      | inr y =>
        rw [hv] at h1
        obtain ⟨hy, h1⟩ := h1
        rw [h1, bI_s, xV_64]
        by_cases a : (T y.1).1 = 61 ∧ (y.2.1 = 1 ∨ y.2.1 = 2)
        · have hl := lt_of hT hy a.1 (by decide)
          rw [x_set1 hT hy a.1 a.2, bI_s, if_neg (by decide), xV_64]
          simp only [if_pos a]
          have h2 := x_val (p := p) (v := nI td) (ag := rAg y.2.2.2.2 ag) hT (D := D + 131) (q := q) (c := y.1 + 1) (kq := kq + y.2.2.1.length) (by omega) hq hl
          cases hw : prV T (N + 1) q (y.1 + 1) (kq + y.2.2.1.length) with
          | inl e =>
            rw [hw] at h2
            obtain ⟨he, w, o', ag', h2⟩ := h2
            rw [h2, bI_s, xg_64_0, xV_58, u_needN hT (in_n0 he), bN_s]
            exact ⟨he, _, _, _, rfl⟩
          | inr z =>
            rw [hw] at h2
            obtain ⟨hz, h2⟩ := h2
            rw [h2, bI_s, xg_64_0, xV_58, ← rAg_app]
            by_cases a59 : (T z.1).1 = 59
            · have hl2 := lt_of hT hz a59 (by decide)
              rw [u_need hT hz a59 (by decide), bN_s]
              simp only [if_pos a59]
              exact ⟨hl2, rfl⟩
            · rw [u_need2 hT hz a59, bN_s]
              simp only [if_neg a59]
              exact ⟨F2_in T _, _, _, _, rfl⟩
        · simp only [if_neg a]
          by_cases b : (T y.1).1 = 59 ∧ y.2.1 = 3
          · have hl := lt_of hT hy b.1 (by decide)
            rw [b.2, x_set0 hT hy b.1, bI_s, if_pos rfl, xg_64_0, xV_58, u_need hT hy b.1 (by decide), bN_s]
            simp only [b.1, and_self, if_pos]
            exact ⟨hl, rfl⟩
          · rw [x_setB hT hy a b, bI_s, if_pos rfl, xg_64_0, xV_58, u_needN hT (F2_n0 T _), bN_s]
            simp only [if_neg b]
            exact ⟨F2_in T _, _, _, _, rfl⟩
end MJ51
