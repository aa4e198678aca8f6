/-! ===== the class's RUN: memberNamed, add ===== -/
section MJB60
variable {T : TT} {N wm cm pc k n d i o q w x kk c m m0 : Nat} {pf : Nat → Nat → Nat} {L : List CD} {H H' : HEAP} {f g : FRM} {fs gs : List FRM} {st : List Int32} {sc : SCL} {s s' : mjSt3} {A : AMS} {v : Int32}
theorem lq_119g (P : PG T L q s) (hc : c < L.length) (R : mjR) (key : Int64) : ∀ (r i m : Nat), i + r = mcL L c → r < m → (∀ j, j < i → ¬ s.2.1 (q + 15) (fmL L c + j) = key) → L_119_12 R m q (nI c) key (nI (fmL L c)) (nI (fmL L c + i)) (mjW0 s) = some (some (.int (match fnd (fun i => decide (s.2.1 (q + 15) (fmL L c + i) = key)) (mcL L c) with
    | none => -1
    | some i => nI (fmL L c + i))), mjW0 s)
  | 0, i, m + 1, e, _, hb => by
    obtain ⟨⟨hq, g2, g3, h16⟩, _, _, _, g13, ⟨g14, g15⟩, _⟩ := P
    obtain ⟨_, _, _, u4, u5, u6⟩ := g13 c hc
    rw [L119_S]
    unfold b_119_12
    rw [yg_10 hq, wya_10 hq (by omega), u4, nI_add, if_pos (nI_le (by omega) (by omega)), fnd_none.mpr (fun j hj => by simpa using hb j (by omega))]
  | r + 1, i, m + 1, e, hr, hb => by
    have P0 := P
    obtain ⟨⟨hq, g2, g3, h16⟩, _, _, _, g13, ⟨g14, g15⟩, _⟩ := P
    obtain ⟨_, _, _, u4, u5, u6⟩ := g13 c hc
    rw [L119_S]
    unfold b_119_12
    rw [yg_10 hq, wya_10 hq (by omega), u4, nI_add, if_neg (nI_ge (by omega) (by omega)), yg_14 hq, ymg_1 hq, wya_15 hq (by omega)]
    by_cases e : s.2.1 (q + 15) (fmL L c + i) = key
    · rw [if_pos ((lg_cmp_eq _ _).mpr e), show fnd (fun i => decide (s.2.1 (q + 15) (fmL L c + i) = key)) (mcL L c) = some i from fnd_some.mpr ⟨by omega, by simpa using e, fun j hj => by simpa using hb j hj⟩]
    · rw [if_neg (fun x => e ((lg_cmp_eq _ _).mp x)), nI_1]
      refine lq_119g P0 hc R key r (i + 1) m (by omega) (by omega) (fun j hj => ?_)
      by_cases g : j = i
      · rw [g]; exact e
      · exact hb j (by omega)
theorem x_119g (P : PG T L q s) (hc : c < L.length) (hm : m0 < nMem L) : mjF (d + 1) 119 [.ref q, .int (nI c), .long (s.2.1 (q + 15) m0)] (mjW0 s) = some (some (.int (oI (omT T L c (nkM T L m0)))), mjW0 s) := by
  have P0 := P
  obtain ⟨⟨hq, g2, g3, h16⟩, _, _, _, g13, ⟨g14, g15⟩, g16, g17, _⟩ := P
  obtain ⟨_, _, u3, u4, u5, u6⟩ := g13 c hc
  have lp := lq_119g P0 hc (mjF d) (s.2.1 (q + 15) m0) (mcL L c) 0 mjN (by omega) (by have := mjN_v; omega) (fun j hj => absurd hj (by omega))
  have ef : fnd (fun i => decide (s.2.1 (q + 15) (fmL L c + i) = s.2.1 (q + 15) m0)) (mcL L c) = fnd (fun i => decide (nkM T L (fmL L c + i) = nkM T L m0)) (mcL L c) := by
    refine fnd_cg (fun i hi => ?_)
    exact decide_eq_decide.mpr (g17 (fmL L c + i) m0 (by omega) hm)
  rw [e_119]
  unfold f_119 b_119_0
  rw [yg_9 hq, wya_9 hq (by omega), u3]
  refine Eq.trans lp ?_
  rw [ef]
  unfold omT
  cases fnd (fun i => decide (nkM T L (fmL L c + i) = nkM T L m0)) (mcL L c) <;> rfl
theorem om_g (P : PG T L q s) (hc : c < L.length) {K : Int64} (h : omT T L c K = some o) : o < nMem L := by
  obtain ⟨_, _, _, _, g13, _⟩ := P
  obtain ⟨_, _, u3, u4, u5, u6⟩ := g13 c hc
  unfold omT at h
  cases hf : fnd (fun i => decide (nkM T L (fmL L c + i) = K)) (mcL L c) with
  | none => rw [hf] at h; cases h
  | some y =>
    rw [hf] at h
    have e := Option.some.inj h
    have := (fnd_some.mp hf).1
    omega
theorem lq_121g (hn : HN T N L) (P : PG T L q s) (hm : m0 < nMem L) (isM : Bool) : ∀ (r k n : Nat) (a : Option Nat), k + r = 16 → r < n → (∀ x, a = some x → x < L.length) → L_121_6 (mjF (d + 2)) n q (s.2.1 (q + 15) m0) (b2 isM) (oI a) (nI k) (mjW0 s) = some (some (.int (oI ((anc (upT T L) r a).findSome? (fun a => match omT T L a (nkM T L m0) with
    | some m => if mSM L m = isM then some m else none
    | none => none)))), mjW0 s)
  | 0, k, n + 1, a, e, _, _ => by
    rw [L121_S]
    unfold b_121_6 b_121_66
    rw [if_pos (show (16 : Int32) ≤ nI k from nI_le (a := 16) (by omega) (by omega))]
    rfl
  | r + 1, k, n + 1, none, e, _, _ => by
    rw [L121_S]
    unfold b_121_6 b_121_66
    rw [if_neg (show ¬ (16 : Int32) ≤ nI k from nI_ge (b := 16) (by omega) (by decide)), oI_n, if_pos rfl]
    rfl
  | r + 1, k, n + 1, some x, e, hr, ha => by
    have P0 := P
    obtain ⟨⟨hq, g2, g3, h16⟩, ⟨A, _⟩, _, _, g13, ⟨g14, g15⟩, g16, g17, _⟩ := P
    have hx := ha x rfl
    have ih := lq_121g hn P0 hm isM r (k + 1) n (upT T L x) (by omega) (by omega) (fun y hy => up_lt hn hx hy)
    have x119 := x_119g (d := d + 1) P0 hx hm
    have ean : anc (upT T L) (r + 1) (some x) = x :: anc (upT T L) r (upT T L x) := rfl
    have e52 : b_121_52 (mjF (d + 2)) (L_121_6 (mjF (d + 2)) n) q (s.2.1 (q + 15) m0) (b2 isM) (nI x) (nI k) (mjW0 s) = L_121_6 (mjF (d + 2)) n q (s.2.1 (q + 15) m0) (b2 isM) (oI (upT T L x)) (nI (k + 1)) (mjW0 s) := by
      unfold b_121_52
      rw [yV hq, x_up hn hq A hx, bI_s, nI_1]
    rw [L121_S]
    unfold b_121_6
    rw [if_neg (show ¬ (16 : Int32) ≤ nI k from nI_ge (b := 16) (by omega) (by decide)), oI_s, if_neg (nI_m1 (by omega)), yV hq, x119, bI_s, ean, List.findSome?_cons, e52, ih]
    cases ho : omT T L x (nkM T L m0) with
    | none => rw [oI_n, if_pos rfl]
    | some o =>
      have ov := om_g P0 hx ho
      rw [oI_s, if_neg (nI_m1 (by omega)), yg_14 hq, ymg_4 hq, wya_18 hq (by omega), (g16 o ov).2.2.1]
      by_cases g : mSM L o = isM
      · rw [if_pos (congrArg b2 g)]
        simp only [if_pos g]
        rfl
      · rw [if_neg (fun x => g (by
          revert x
          cases mSM L o <;> cases isM <;> decide))]
        simp only [if_neg g]
/-- memberNamed -/
theorem x_121g (hn : HN T N L) (P : PG T L q s) (hc : c < L.length) (hm : m0 < nMem L) (isM : Bool) : mjF (d + 3) 121 [.ref q, .int (nI c), .long (s.2.1 (q + 15) m0), .int (b2 isM)] (mjW0 s) = some (some (.int (oI (memT T L c (nkM T L m0) isM))), mjW0 s) := by
  rw [e_121]
  unfold f_121 b_121_0
  exact lq_121g hn P hm isM 16 0 mjN (some c) (by omega) (by have := mjN_v; omega) (fun x hx => by cases hx; exact hc)
/-- add -/
theorem x_37 (M : CRn T L pf wm cm pc (H, f :: fs, k, st, sc) s) (hl : fs.length + 1 < 40) (ms : sc.1 < 100) (hpc : pc = pf f.1 k) (m o : Nat) : ∃ s', mjF (d + 3) 37 [.ref 83, .int (nI m), .int (nI o), .int (nI pc)] (mjW0 s) = some (none, mjW0 s') ∧ oCn s s' ∧ CRn T L pf wm cm pc (H, (m, o, -1, (fun _ => 0), k) :: f :: fs, k, st, (if sc.1 < (f :: fs).length + 1 then (f :: fs).length + 1 else sc.1), sc.2) s' := by
  obtain ⟨⟨⟨a1, a2, a3, a4⟩, ⟨a5, a6, a7⟩, ⟨a8, a9, a10⟩, ⟨a11, a12⟩, a13⟩, hH, hF, hT⟩ := M
  have h0 : s.1 83 0 = nI (fs.length + 1) := a10
  have h1 : s.1 83 1 = nI sc.1 := a6
  obtain ⟨z1, g1⟩ : ∃ y, y = uI s 84 (upd (s.1 84) (fs.length + 1) (nI m)) := ⟨_, rfl⟩
  obtain ⟨z2, g2⟩ : ∃ y, y = uI z1 85 (upd (z1.1 85) (fs.length + 1) (nI o)) := ⟨_, rfl⟩
  obtain ⟨z3, g3⟩ : ∃ y, y = uI z2 86 (upd (z2.1 86) (fs.length + 1) (nI pc)) := ⟨_, rfl⟩
  obtain ⟨z4, g4⟩ : ∃ y, y = uI z3 87 (upd (z3.1 87) (fs.length + 1) (-1)) := ⟨_, rfl⟩
  obtain ⟨z5, g5⟩ : ∃ y, y = uI z4 88 (fillF (z4.1 88) (16 * (fs.length + 1)) (16 * (fs.length + 1) + 16) 0) := ⟨_, rfl⟩
  obtain ⟨z6, g6⟩ : ∃ y, y = uI z5 83 (upd (z5.1 83) 0 (nI (fs.length + 2))) := ⟨_, rfl⟩
  obtain ⟨mx, hmx⟩ : ∃ y, y = (if sc.1 < (f :: fs).length + 1 then (f :: fs).length + 1 else sc.1) := ⟨_, rfl⟩
  obtain ⟨z7, g7⟩ : ∃ y, y = uI z6 83 (upd (z6.1 83) 1 (nI mx)) := ⟨_, rfl⟩
  have r83 : ∀ y, y = z1 ∨ y = z2 ∨ y = z3 ∨ y = z4 ∨ y = z5 → y.1 83 = s.1 83 := by
    have e1 : z1.1 83 = s.1 83 := by rw [g1, uI_ne _ _ _ _ (by decide)]
    have e2 : z2.1 83 = s.1 83 := by rw [g2, uI_ne _ _ _ _ (by decide), e1]
    have e3 : z3.1 83 = s.1 83 := by rw [g3, uI_ne _ _ _ _ (by decide), e2]
    have e4 : z4.1 83 = s.1 83 := by rw [g4, uI_ne _ _ _ _ (by decide), e3]
    have e5 : z5.1 83 = s.1 83 := by rw [g5, uI_ne _ _ _ _ (by decide), e4]
    intro y hy
    rcases hy with hy | hy | hy | hy | hy <;> rw [hy] <;> assumption
  have v6 : ∀ j, z6.1 83 j = if j = 0 then nI (fs.length + 2) else s.1 83 j := fun j => by rw [g6, uI_same, upd_g, r83 z5 (by simp)]
  have rr : ∀ h, ¬ (83 ≤ h ∧ h ≤ 88) → z7.1 h = s.1 h := fun h e => by rw [g7, uI_ne _ _ _ _ (by omega), g6, uI_ne _ _ _ _ (by omega), g5, uI_ne _ _ _ _ (by omega), g4, uI_ne _ _ _ _ (by omega), g3, uI_ne _ _ _ _ (by omega), g2, uI_ne _ _ _ _ (by omega), g1, uI_ne _ _ _ _ (by omega)]
  have v83 : ∀ j, z7.1 83 j = if j = 1 then nI mx else if j = 0 then nI (fs.length + 2) else s.1 83 j := fun j => by rw [g7, uI_same, upd_g, g6, uI_same, upd_g, r83 z5 (by simp)]
  have v84 : ∀ j, z7.1 84 j = if j = fs.length + 1 then nI m else s.1 84 j := fun j => by rw [g7, uI_ne _ _ _ _ (by decide), g6, uI_ne _ _ _ _ (by decide), g5, uI_ne _ _ _ _ (by decide), g4, uI_ne _ _ _ _ (by decide), g3, uI_ne _ _ _ _ (by decide), g2, uI_ne _ _ _ _ (by decide), g1, uI_same, upd_g]
  have v85 : ∀ j, z7.1 85 j = if j = fs.length + 1 then nI o else s.1 85 j := fun j => by rw [g7, uI_ne _ _ _ _ (by decide), g6, uI_ne _ _ _ _ (by decide), g5, uI_ne _ _ _ _ (by decide), g4, uI_ne _ _ _ _ (by decide), g3, uI_ne _ _ _ _ (by decide), g2, uI_same, upd_g, g1, uI_ne _ _ _ _ (by decide)]
  have v86 : ∀ j, z7.1 86 j = if j = fs.length + 1 then nI pc else s.1 86 j := fun j => by rw [g7, uI_ne _ _ _ _ (by decide), g6, uI_ne _ _ _ _ (by decide), g5, uI_ne _ _ _ _ (by decide), g4, uI_ne _ _ _ _ (by decide), g3, uI_same, upd_g, g2, uI_ne _ _ _ _ (by decide), g1, uI_ne _ _ _ _ (by decide)]
  have v87 : ∀ j, z7.1 87 j = if j = fs.length + 1 then -1 else s.1 87 j := fun j => by rw [g7, uI_ne _ _ _ _ (by decide), g6, uI_ne _ _ _ _ (by decide), g5, uI_ne _ _ _ _ (by decide), g4, uI_same, upd_g, g3, uI_ne _ _ _ _ (by decide), g2, uI_ne _ _ _ _ (by decide), g1, uI_ne _ _ _ _ (by decide)]
  have v88 : ∀ j, z7.1 88 j = if 16 * (fs.length + 1) ≤ j ∧ j < 16 * (fs.length + 1) + 16 then 0 else s.1 88 j := fun j => by
    rw [g7, uI_ne _ _ _ _ (by decide), g6, uI_ne _ _ _ _ (by decide), g5, uI_same]
    show (if 16 * (fs.length + 1) ≤ j ∧ j < 16 * (fs.length + 1) + 16 then 0 else z4.1 88 j) = _
    rw [g4, uI_ne _ _ _ _ (by decide), g3, uI_ne _ _ _ _ (by decide), g2, uI_ne _ _ _ _ (by decide), g1, uI_ne _ _ _ _ (by decide)]
  have low : FRc pf z7 (f :: fs) := FRc.low (n := fs.length + 1) (fun h j h1 h2 => by
    have h1' : h = 84 ∨ h = 85 ∨ h = 86 ∨ h = 87 := by omega
    rcases h1' with e | e | e | e <;> rw [e]
    · rw [v84, if_neg (by omega)]
    · rw [v85, if_neg (by omega)]
    · rw [v86, if_neg (by omega)]
    · rw [v87, if_neg (by omega)]) (fun j hj => by rw [v88, if_neg (by omega)]) (f :: fs) (Nat.le_refl _) hF
  refine ⟨z7, ?_, offG.tr (b := z1) (by rw [g1]; exact oCn.wr (by omega)) (offG.tr (b := z2) (by rw [g2]; exact oCn.wr (by omega)) (offG.tr (b := z3) (by rw [g3]; exact oCn.wr (by omega)) (offG.tr (b := z4) (by rw [g4]; exact oCn.wr (by omega)) (offG.tr (b := z5) (by rw [g5]; exact oCn.wr (by omega)) (offG.tr (b := z6) (by rw [g6]; exact oCn.wr (by omega)) (by rw [g7]; exact oCn.wr (by omega))))))), ?_⟩
  · have mxe : (if nI (fs.length + 2) ≤ nI sc.1 then nI sc.1 else nI (fs.length + 2)) = nI mx := by
      rw [hmx]
      have : (f :: fs).length + 1 = fs.length + 2 := rfl
      rw [this]
      by_cases e : sc.1 < fs.length + 2
      · rw [if_pos e, if_neg (nI_ge e (by omega))]
      · rw [if_neg e, if_pos (nI_le (by omega) (by omega))]
    rw [e_37]
    unfold f_37 b_37_0
    rw [xg_83_0, h0, if_pos (show nI (fs.length + 1) < (40 : Int32) from nI_lt (b := 40) hl (by decide)), xg_83_2, xg_83_0, h0, ws_84 hl, ← g1, xg_83_3, xg_83_0, r83 z1 (by simp), h0, ws_85 hl, ← g2, xg_83_4, xg_83_0, r83 z2 (by simp), h0, ws_86 hl, ← g3, xg_83_5, xg_83_0, r83 z3 (by simp), h0, ws_87 hl, ← g4, xg_83_0, r83 z4 (by simp), h0, xg_83_6, show nI (fs.length + 1) * 16 = nI (16 * (fs.length + 1)) by rw [show (16 : Int32) = nI 16 from rfl, nI_mul, Nat.mul_comm], show nI (16 * (fs.length + 1)) + 16 = nI (16 * (fs.length + 1) + 16) from nI_add _ 16, q_379 tT_88 (by decide) (by omega) (by omega), bN_s, ← g5, xg_83_0, r83 z5 (by simp), h0, nI_1, xp_83_0, ← g6, xg_83_1, xg_83_0, v6, v6, if_neg (show ¬ 1 = 0 by decide), if_pos rfl, h1, q_max, mxe, bI_s, xp_83_1, ← g7]
  · rw [← hmx]
    refine ⟨⟨⟨by rw [rr 82 (by omega)]; exact a1, by rw [rr 82 (by omega)]; exact a2, by rw [rr 82 (by omega)]; exact a3, by rw [rr 82 (by omega)]; exact a4⟩, ⟨by rw [rr 82 (by omega)]; exact a5, by rw [v83, if_pos rfl], by rw [rr 82 (by omega)]; exact a7⟩, ⟨by rw [rr 79 (by omega)]; exact a8, by rw [rr 79 (by omega)]; exact a9, by rw [v83, if_neg (by decide), if_pos rfl]; rfl⟩, ⟨by rw [rr 79 (by omega)]; exact a11, by rw [rr 82 (by omega)]; exact a12⟩, fun i h1 h2 => by rw [rr 90 (by omega)]; exact a13 i h1 h2⟩, hH.keep (fun x hx => rr x (by omega)), ⟨⟨by show z7.1 84 (fs.length + 1) = _; rw [v84, if_pos rfl], by show z7.1 85 (fs.length + 1) = _; rw [v85, if_pos rfl], by show z7.1 87 (fs.length + 1) = _; rw [v87, if_pos rfl], fun y hy => by show z7.1 88 (16 * (fs.length + 1) + y) = 0; rw [v88, if_pos (by omega)], fun g' gs' hg => ?_⟩, low⟩, fun g' gs' hg => ?_⟩
    · have e := (List.cons.inj hg).1
      show z7.1 86 (fs.length + 1) = nI (pf g'.1 k)
      rw [v86, if_pos rfl, ← e, hpc]
    · obtain ⟨c1, c2, c3⟩ := hT f fs rfl
      exact ⟨by rw [rr 82 (by omega)]; exact c1, by rw [rr 82 (by omega)]; exact c2, STc.low _ (fun j _ => by rw [rr 89 (by omega)]) c3⟩
end MJB60
